theorem nd_pick {w0 w : va_W} {is : List Nat} (h : is.map (fun i => w[i]?) = w0.map some) : is.filterMap (fun i => w[i]?) = w0 := by
  induction is generalizing w0 with
  | nil =>
    cases w0 with
    | nil => rfl
    | cons a l => simp at h
  | cons i is ih =>
    cases w0 with
    | nil => simp at h
    | cons a l =>
      simp only [List.map_cons, List.cons.injEq] at h
      rw [List.filterMap_cons, h.1]
      simp only [ih h.2]
def ctQ (E : en_T) (w0 : va_W) (v : Option Value) (Bw : va_W → Prop) (sz : Nat) : Array Value → State → Outcome → State → Prop := fun _ st oc t => (∃ w1, oc = .returned v ∧ Bw w1 ∧ va_P (en_D E) classes w1 t.heap ∧ va_D (va_A w0 sz) w1) ∧ va_F (va_A w0 sz) st t
/-- a contract: from the cells w0 the method answers v, and the cells are as Bw says; nothing else that was there changes -/
def ct (l : Launch) (y : MethodName) (cc : ByteArray) (mL : Nat) (ret : Option FieldType) (rm : Room) (E : en_T) (av : List Value) (w0 : va_W) (v : Option Value) (Bw : va_W → Prop) : Prop :=
  ∀ sz : Nat, Met l y (.code y cc mL ret :: lw_ws) rm (va_Pc av (fun U => U.heap.size = sz ∧ va_P (en_D E) classes w0 U.heap ∧ en_K E U ∧ va_D (fun _ => True) w0))
    (ctQ E w0 v Bw sz) rm.cells rm.slots (va_A w0 sz)
theorem en_K.moved {E : en_T} {u U : State} (h : u.vm.Alike U.vm) (hK : en_K E u) : en_K E U := va_K.moved h hK
/-- how a method ends -/
def rt (B : bu_T) (cc : ByteArray) (nL : Nat) (ret : Option FieldType) (rm : Room) (v : Option Value) (Bw : va_W → Prop) : Prop :=
  ∀ (pc : Nat) (lv : List (Nat × Value)) (w1 : va_W), Bw w1 →
    (v = none → ret = none → decode cc pc = .ok (.return_, 1) → gg B nL rm.cells rm.slots pc lv [] w1) ∧
    (∀ (r : Int32) (ty : FieldType), v = some (.int r) → ret = some ty → narrow ty (.int r) = .int r → decode cc pc = .ok (.ireturn, 1) → gg B nL rm.cells rm.slots pc lv [.int r] w1) ∧
    (∀ r : Int64, v = some (.long r) → ret = some .long → decode cc pc = .ok (.lreturn, 1) → gg B nL rm.cells rm.slots pc lv [.long r] w1)
theorem ct_body {l : Launch} {y : MethodName} {cc : ByteArray} {mL : Nat} {ret : Option FieldType} {rm : Room} {E : en_T} {av : List Value} {w0 : va_W} {v : Option Value} {Bw : va_W → Prop} (hav : (lg_sl av).length ≤ mL)
    (body : ∀ B : bu_T, bu_l B = l → bu_E B = E → (y.name = "<init>" → (bu_h B).name = "<init>") → cx B cc y.cls rm mL → rt B cc mL ret rm v Bw → gg B mL 0 0 0 (lv_args 0 av) [] w0) (sz : Nat) :
    ∀ p e s m args below meth c s₁, BodyLoose p l y (headSpec (.code y cc mL ret :: lw_ws) rm) cc mL ret e s m args below meth c s₁ → c.maxLocals = mL → va_Pc av (fun U => U.heap.size = sz ∧ va_P (en_D E) classes w0 U.heap ∧ en_K E U ∧ va_D (fun _ => True) w0) args s →
      W p l e (headSpec (.code y cc mL ret :: lw_ws) rm).room s m args below meth c s.heap [] 0 0 (MQ below (ctQ E w0 v Bw sz) args s rm.cells rm.slots (va_A w0 sz)) (entryFrame m args mL) := by
  intro p e s m args below meth c s₁ B hml hv
  obtain ⟨rfl, hsz, hP, hK, hD0⟩ := hv
  have hx := B.exec
  have hb := B.bytes
  have hr := B.returns
  have hts := atoms_spec (ws := .code y cc mL ret :: lw_ws) B.pre
  have hown : s.vm.findClass y.cls = some m.cls := findClass_of_methodNamed B.named
  have hlocks := B.notSynchronized
  subst hsz
  have hD := hD0.self (sz := s.heap.size)
  have hl := lv_entry av (n := mL) hav
  rw [lg_entry_eq]
  refine body (p, l, e, rm, s, m, av.toArray, below, meth, c, va_A w0 s.heap.size, E, MQ below (ctQ E w0 v Bw s.heap.size) av.toArray s rm.cells rm.slots (va_A w0 s.heap.size)) rfl rfl (fun q => by rw [← q]; exact (name_of_methodNamed B.named B.method).1) ⟨hx, hb, hml, hown, fun x h => hts x (List.mem_cons_of_mem _ h), fun q h => Or.inr h, hK, rfl⟩ ?_ s.heap [] _ hP hD va_S.rf hl
  intro pc lv w1 hw1
  refine ⟨fun e1 e2 hd => ?_, fun r ty e1 e2 e3 hd => ?_, fun r e1 e2 hd => ?_⟩
  · intro H locs ls hP1 hD1 hS1 hl1
    show W p l e rm s m av.toArray below meth c H locs rm.cells rm.slots (MQ below (ctQ E w0 v Bw s.heap.size) av.toArray s rm.cells rm.slots (va_A w0 s.heap.size)) (F0 m pc ls [])
    exact W.vret hx hb (hr.trans e2) (fun t ht hW => ⟨⟨w1, by rw [e1], hw1, by rw [ht]; exact hP1, hD1⟩, hS1.F ht⟩) hS1.2.2 hd
  · intro H locs ls hP1 hD1 hS1 hl1
    show W p l e rm s m av.toArray below meth c H locs rm.cells rm.slots (MQ below (ctQ E w0 v Bw s.heap.size) av.toArray s rm.cells rm.slots (va_A w0 s.heap.size)) (F0 m pc ls [.int r])
    exact W.zret hx hb (hr.trans e2) e3 (fun t ht hW => ⟨⟨w1, by rw [e1], hw1, by rw [ht]; exact hP1, hD1⟩, hS1.F ht⟩) hS1.2.2 hd
  · intro H locs ls hP1 hD1 hS1 hl1
    show W p l e rm s m av.toArray below meth c H locs rm.cells rm.slots (MQ below (ctQ E w0 v Bw s.heap.size) av.toArray s rm.cells rm.slots (va_A w0 s.heap.size)) (F0 m pc ls [.long r])
    exact W.lret hx hb (hr.trans e2) (fun t ht hW => ⟨⟨w1, by rw [e1], hw1, by rw [ht]; exact hP1, hD1⟩, hS1.F ht⟩) hS1.2.2 hd
theorem ct_of {l : Launch} {y : MethodName} {cc : ByteArray} {mL : Nat} {ret : Option FieldType} {rm : Room} {E : en_T} {av : List Value} {w0 : va_W} {v : Option Value} {Bw : va_W → Prop} (hy : plainName y.cls = true) (hav : (lg_sl av).length ≤ mL)
    (body : ∀ B : bu_T, bu_l B = l → bu_E B = E → (y.name = "<init>" → (bu_h B).name = "<init>") → cx B cc y.cls rm mL → rt B cc mL ret rm v Bw → gg B mL 0 0 0 (lv_args 0 av) [] w0) : ct l y cc mL ret rm E av w0 v Bw := fun sz => Met.ofW hy rfl (ct_body hav body sz)
theorem ct_ofF {l : Launch} {y : MethodName} {cc : ByteArray} {mL : Nat} {ret : Option FieldType} {rm : Room} {E : en_T} {av : List Value} {w0 : va_W} {v : Option Value} {Bw : va_W → Prop} (hy : plainFor y = true) (hav : (lg_sl av).length ≤ mL)
    (body : ∀ B : bu_T, bu_l B = l → bu_E B = E → (y.name = "<init>" → (bu_h B).name = "<init>") → cx B cc y.cls rm mL → rt B cc mL ret rm v Bw → gg B mL 0 0 0 (lv_args 0 av) [] w0) : ct l y cc mL ret rm E av w0 v Bw := fun sz => va_MetF hy rfl (ct_body hav body sz)
theorem good_of {ws : List Cond} {c : Cond} (hc : c ∈ lw_ws) (hw : ∀ x ∈ ws, x ∈ lw_ws) : GoodIn lw_ws (ws ++ (c :: lw_ws)) := fun x h => by
  have h1 : x ∈ lw_ws := by
    rcases List.mem_append.mp h with h | h
    · exact hw x h
    · rcases List.mem_cons.mp h with h | h
      · rw [h]; exact hc
      · exact h
  exact ⟨h1, good_of_word (qg_all x h1)⟩
theorem ct_blind {E : en_T} {av : List Value} {w0 : va_W} {sz : Nat} : FrameBlind (va_Pc av (fun U => U.heap.size = sz ∧ va_P (en_D E) classes w0 U.heap ∧ en_K E U ∧ va_D (fun _ => True) w0)) := fun a U g mk q => by
  obtain ⟨q0, q1, qP, qK, qD⟩ := q
  exact ⟨q0, q1, qP, en_K.moved (u := U) (U := U.calling g mk a) (Vm.Alike.refl U.vm) qK, qD⟩
section CALL
variable {B : bu_T} {cc : ByteArray} {own : String} {rm : Room} {nL k n pc : Nat} {lv lv' : List (Nat × Value)} {st rest : List Value} {w w' : va_W}
variable {y : MethodName} {bytes : ByteArray} {maxL index na : Nat} {ret : Option FieldType} {rm' : Room} {w0 wr : va_W} {v : Option Value} {Bw : va_W → Prop} {As : List Value} {b : Nat}
/-- what comes behind every call: the callee's cells stand beside the rest -/
theorem gg_back (K : cx B cc own rm nL) (H : Heap) (locs : List Loc) (ls : Array Slot) (hP : va_P (en_D (bu_E B)) classes w H) (hD : va_D (bu_A B) w) (hS : va_S (bu_A B) (bu_s B).heap H locs) (hl : lv_has ls nL lv)
    (isC isR : List Nat) (hC : isC.map (fun i => w[i]?) = w0.map some) (hR : isR.map (fun i => w[i]?) = wr.map some) (hn : va_nd isR = true) (hdis : ∀ i ∈ isR, i ∉ isC)
    (hr : va_Run (bu_p B) (bu_l B) (bu_e B) (bu_R B) (bu_s B) (bu_m B) (bu_a B) (bu_b B) (bu_h B) (bu_c B) H locs k n rm'.cells rm'.slots (F0 (bu_m B) pc ls st) rest (fun stt oc t => (∃ w1, oc = .returned v ∧ Bw w1 ∧ va_P (en_D (bu_E B)) classes w1 t.heap ∧ va_D (va_A w0 H.size) w1) ∧ va_F (va_A w0 H.size) stt t) (va_A w0 H.size))
    (kk : ∀ w1, Bw w1 → gg B nL (k + rm'.cells) (n + rm'.slots) (pc + 3) lv (v.toList ++ rest) (wr ++ w1)) : bu_W B H locs k n (F0 (bu_m B) pc ls st) := by
  have hA := K.2.2.2.2.2.1
  have hF := va_free (wc := w0) hD hS hA isC hC
  intro T hT X
  obtain ⟨v', st₀, t, T', L, h0, X', hL, e1, e2, ⟨⟨w1, hv, hw1, hP1, hD1⟩, hz, hk⟩, step⟩ := hr T hT X
  have hv' : v' = v := by injection hv
  subst hv'
  rw [h0] at hz hk
  rw [← e1] at hz hk hP1
  obtain ⟨hP2, hD2⟩ := va_join (wr := wr) (w1 := w1) hP hD isC isR hC hR hn hdis hk hF hP1 hD1
  have hS2 : va_S (bu_A B) (bu_s B).heap T'.heap (locs ++ L) := ⟨Nat.le_trans hS.1 hz, fun q h1 h2 => by rw [hk q (Nat.lt_of_lt_of_le h1 hS.1) (fun z => h2 (hF q z))]; exact hS.2.1 q h1 h2, fun q hq => by
    rcases List.mem_append.mp hq with h | h
    · exact hS.2.2 q h
    · exact hF _ (hL q h)⟩
  obtain ⟨t2, a1, b1⟩ := kk w1 hw1 T'.heap (locs ++ L) ls hP2 hD2 hS2 hl T' rfl X'
  exact ⟨t2, step t2 a1, b1⟩
theorem gg_callS (K : cx B cc own rm nL) (hM : ct (bu_l B) y bytes maxL ret rm' (bu_E B) As w0 v Bw) (h1 : Cond.methodLink own index y ∈ lw_ws) (h2 : Cond.static y ∈ lw_ws) (h3 : Cond.initialized y.cls ∈ lw_ws) (h4 : Cond.code y bytes maxL ret ∈ lw_ws)
    (hd0 : y.cls ≠ "java/lang/invoke/MethodHandle" ∧ y.cls ≠ "java/lang/invoke/VarHandle" ∧ (parseMethodDescriptor y.desc).map (fun d => d.parameters.length) = some na) (hR : rm'.frames + 1 ≤ rm.frames ∧ 8 + (maxL + 11) + rm'.locals ≤ rm.locals) (hcap : k + rm'.cells ≤ rm.cells ∧ n + rm'.slots ≤ rm.slots)
    (isC isR : List Nat) (hC : isC.map (fun i => w[i]?) = w0.map some) (hRw : isR.map (fun i => w[i]?) = wr.map some) (hnC : va_nd isC = true) (hn : va_nd isR = true) (hdis : ∀ i ∈ isR, i ∉ isC)
    (hna : As.length = na) (hst : st = As.reverse ++ rest) (hroom : (rest.map fun v => v.category).sum ≤ 8) (hd : decode cc pc = .ok (.invokestatic index, 3))
    (kk : ∀ w1, Bw w1 → gg B nL (k + rm'.cells) (n + rm'.slots) (pc + 3) lv (v.toList ++ rest) (wr ++ w1)) : gg B nL k n pc lv st w := by
  intro H locs ls hP hD hS hl
  have hK := K.2.2.2.2.2.2.1
  have hPc := hP.sub (ws' := w0) isC (nd_pick hC)
  have hDc := hD.sub (ws' := w0) isC hnC hC
  refine gg_back K H locs ls hP hD hS hl isC isR hC hRw hn hdis ?_ kk
  have hrm : bu_R B = rm := K.2.2.2.2.2.2.2
  exact va_runS (As := As) (rest := rest) ⟨K.1, K.2.1, K.2.2.1, K.2.2.2.1, K.2.2.2.2.1⟩ (hM H.size) (va_cwS na K.2.2.2.2.1 (good_of (ws := [.methodLink own index y, .static y, .initialized y.cls]) h4 (by intro x hx; simp only [List.mem_cons, List.not_mem_nil, or_false] at hx; rcases hx with rfl | rfl | rfl <;> assumption)) rfl rfl rfl hd0 (by rw [hrm]; exact hR))
    ⟨ct_blind, fun U hU hW => ⟨rfl, by rw [hU], by rw [hU]; exact hPc, en_K.moved hW.alike hK, hDc.weaken (fun _ _ _ _ => trivial)⟩⟩ rfl hna hl.1 hst (lv_room hroom) hd (by rw [hrm]; exact hcap)
theorem gg_callV (K : cx B cc own rm nL) {C : String} {ci N : Nat} {T : u_T} {fs : List Value} (hM : ct (bu_l B) y bytes maxL ret rm' (bu_E B) (.ref b :: As) w0 v Bw) (h1 : Cond.methodLink own index y ∈ lw_ws) (h2 : Cond.instanceMethod y ∈ lw_ws) (h3 : Cond.selects C y y ∈ lw_ws) (h5 : Cond.initialized C ∈ lw_ws) (h4 : Cond.code y bytes maxL ret ∈ lw_ws)
    (hd0 : y.cls = C ∧ y.cls ≠ "java/lang/invoke/MethodHandle" ∧ y.cls ≠ "java/lang/invoke/VarHandle" ∧ (parseMethodDescriptor y.desc).map (fun d => d.parameters.length) = some na) (hR : rm'.frames + 1 ≤ rm.frames ∧ 8 + (maxL + 11) + rm'.locals ≤ rm.locals) (hcap : k + rm'.cells ≤ rm.cells ∧ n + rm'.slots ≤ rm.slots)
    (hcl : classes[ci]? = some (C, T, N)) (q0 : Nat) (hrc : w[q0]? = some (b, .inr (ci, fs)))
    (isC isR : List Nat) (hC : isC.map (fun i => w[i]?) = w0.map some) (hRw : isR.map (fun i => w[i]?) = wr.map some) (hnC : va_nd isC = true) (hn : va_nd isR = true) (hdis : ∀ i ∈ isR, i ∉ isC)
    (hna : As.length = na) (hst : st = As.reverse ++ .ref b :: rest) (hroom : (rest.map fun v => v.category).sum ≤ 8) (hd : decode cc pc = .ok (.invokevirtual index, 3))
    (kk : ∀ w1, Bw w1 → gg B nL (k + rm'.cells) (n + rm'.slots) (pc + 3) lv (v.toList ++ rest) (wr ++ w1)) : gg B nL k n pc lv st w := by
  intro H locs ls hP hD hS hl
  have hK := K.2.2.2.2.2.2.1
  have hPc := hP.sub (ws' := w0) isC (nd_pick hC)
  have hDc := hD.sub (ws' := w0) isC hnC hC
  refine gg_back K H locs ls hP hD hS hl isC isR hC hRw hn hdis ?_ kk
  have hrm : bu_R B = rm := K.2.2.2.2.2.2.2
  exact va_runV (As := As) (rest := rest) ⟨K.1, K.2.1, K.2.2.1, K.2.2.2.1, K.2.2.2.2.1⟩ (hM H.size) (cwV na K.2.2.2.2.1 (good_of (ws := [.methodLink own index y, .instanceMethod y, .selects C y y, .initialized C]) h4 (by intro x hx; simp only [List.mem_cons, List.not_mem_nil, or_false] at hx; rcases hx with rfl | rfl | rfl | rfl <;> assumption)) rfl rfl rfl hd0 (by rw [hrm]; exact hR))
    ⟨ct_blind, va_recv hK hP (ci := ci) (q0 := q0) hcl hrc, fun U hU hW => ⟨rfl, by rw [hU], by rw [hU]; exact hPc, en_K.moved hW.alike hK, hDc.weaken (fun _ _ _ _ => trivial)⟩⟩ rfl hna hl.1 hst (lv_room hroom) hd (by rw [hrm]; exact hcap)
/-- the cells in another order -/
theorem gg_perm (is : List Nat) (hp : is.map (fun i => w[i]?) = w'.map some) (hn : va_nd is = true) (kk : gg B nL k n pc lv st w') : gg B nL k n pc lv st w := fun H locs ls hP hD hS hl => kk H locs ls (hP.sub is (nd_pick hp)) (hD.sub is hn hp) hS hl
end CALL
