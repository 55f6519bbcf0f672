def lw_nest : List Cond := [Cond.methodLinkNest "SoundDesk" 9 yX0_init "SoundDesk", Cond.methodLinkNest "SoundDesk$Finder" 11 yX6_init "SoundDesk", Cond.methodLinkNest "SoundDesk$State" 9 yX5_init "SoundDesk", Cond.methodLinkNest "SoundDesk$State" 18 yX1_init "SoundDesk", Cond.methodLinkNest "SoundDesk$State" 25 yX7_init "SoundDesk", Cond.methodLinkNest "SoundDesk$State" 32 yX2_init "SoundDesk", Cond.methodLinkNest "SoundDesk$State" 39 yX3_init "SoundDesk", Cond.methodLinkNest "SoundDesk$Finder" 20 yX4_init "SoundDesk", Cond.methodLinkNest "SoundDesk$Finder" 27 yX3_init "SoundDesk", Cond.methodLinkNest "SoundDesk$Finder" 37 yX8_init "SoundDesk", Cond.methodLinkNest "SoundDesk" 25 yX6_init "SoundDesk"]
/-- links across the nest, and the classes of arrays of arrays: words that a constructor is told -/
def va_AOB (ty : FieldType) (U : State) : Prop := (Cond.arrayOver (.array ty)).before #[] U = true
def en_N (U : State) : Prop := (∀ w ∈ lw_nest, va_Nw w U) ∧ va_AOB .int U ∧ va_AOB .long U
theorem ao_bind {o : Option Nat} {f : Nat → Option Class} {g : Nat → Class → Bool} (h : (o.bind (fun c => (f c).map (g c)) == some true) = true) : ∃ c k, o = some c ∧ f c = some k ∧ g c k = true := by
  cases o with
  | none => simp at h
  | some c =>
    rw [Option.bind_some] at h
    cases hf : f c with
    | none => rw [hf] at h; simp at h
    | some k => rw [hf] at h; exact ⟨c, k, rfl, hf, by simpa using h⟩
theorem ao_spec {ty : FieldType} {U : State} (h : va_AOB ty U) : ∃ (comp c : Nat) (k : Class), U.vm.findClass (FieldType.array ty).toString = some comp ∧ (U.vm.classes.findIdx? fun (x : Class) => match x.kind with | .array component _ => component == comp | _ => false) = some c ∧ U.vm.classes[c]? = some k ∧ k.kind = .array comp (.array ty) ∧ U.vm.findClass ("[" ++ (FieldType.array ty).toString) = some c := by
  unfold va_AOB Cond.before Cond.holds at h
  simp only [Cond.value] at h
  cases h1 : U.vm.findClass (FieldType.array ty).toString with
  | none => rw [h1] at h; simp at h
  | some comp =>
    rw [h1, Option.bind_some] at h
    obtain ⟨c, k, h2, h3, h4⟩ := ao_bind h
    have h2' : (U.vm.classes.findIdx? fun (x : Class) => match x.kind with | .array component _ => component == comp | _ => false) = some c := h2
    obtain ⟨hc, hp, -⟩ := Array.findIdx?_eq_some_iff_getElem.mp h2'
    have hk : U.vm.classes[c] = k := by rw [Array.getElem?_eq_getElem hc] at h3; exact Option.some.inj h3
    rw [hk] at hp
    refine ⟨comp, c, k, rfl, h2', h3, ?_⟩
    cases hkd : k.kind with
    | array cm t9 =>
      rw [hkd] at hp h4
      simp only [Bool.and_eq_true, decide_eq_true_eq] at h4
      exact ⟨by rw [h4.1, eq_of_beq hp], h4.2⟩
    | _ => rw [hkd] at hp; simp at hp
theorem va_AOB.moved {ty : FieldType} {u U : State} (hvm : u.vm.Alike U.vm) (h : va_AOB ty u) : va_AOB ty U := by
  obtain ⟨comp, c, k, h1, h2, h3, h4, h5⟩ := ao_spec h
  obtain ⟨k', hk', he⟩ := hvm.2.2 _ _ h3
  have hi : (U.vm.classes.findIdx? fun (x : Class) => match x.kind with | .array component _ => component == comp | _ => false) = some c := by
    have e1 := va_idx_bare U.vm comp
    have e2 := va_idx_bare u.vm comp
    have e3 : U.vm.bare = u.vm.bare := by first | exact hvm.bare_eq | exact hvm.bare_eq.symm
    rw [e3] at e1
    exact e1.symm.trans (e2.trans h2)
  have hkind : k'.kind = .array comp (.array ty) := by rw [he]; exact h4
  have f1 : U.vm.findClass (FieldType.array ty).toString = some comp := by rw [hvm.findClass]; exact h1
  have f2 : U.vm.findClass ("[" ++ (FieldType.array ty).toString) = some c := by rw [hvm.findClass]; exact h5
  unfold va_AOB Cond.before Cond.holds
  simp only [Cond.value]
  rw [f1, Option.bind_some]
  refine (congrArg (fun o : Option Nat => (o.bind (fun c => (U.vm.classes[c]?).map fun (k : Class) => match k.kind with | .array _ ty9 => decide (ty9 = FieldType.array ty) && decide (U.vm.findClass ("[" ++ (FieldType.array ty).toString) = some c) | _ => false) == some true)) hi).trans ?_
  simp [hk', hkind, f2]
theorem en_N.warm {s U : State} (hW : s.WarmedH U.vm) (h : en_N s) : en_N U := by
  refine ⟨fun w hw => ?_, va_AOB.moved hW.alike h.2.1, va_AOB.moved hW.alike h.2.2⟩
  have h1 := h.1 w hw
  simp only [lw_nest, List.mem_cons, List.not_mem_nil, or_false] at hw
  rcases hw with rfl | rfl | rfl | rfl | rfl | rfl | rfl | rfl | rfl | rfl | rfl <;> exact va_Nw.warmM hW h1
theorem en_N.same {u U : State} (h : u.vm = U.vm) (hN : en_N u) : en_N U := by
  refine ⟨fun w hw => ?_, va_AOB.moved (by rw [h]; exact Vm.Alike.refl _) hN.2.1, va_AOB.moved (by rw [h]; exact Vm.Alike.refl _) hN.2.2⟩
  have h1 := hN.1 w hw
  simp only [lw_nest, List.mem_cons, List.not_mem_nil, or_false] at hw
  rcases hw with rfl | rfl | rfl | rfl | rfl | rfl | rfl | rfl | rfl | rfl | rfl <;> exact va_Nw.same rfl h h1
/-- a constructor's contract -/
def cn (l : Launch) (y : MethodName) (cc : ByteArray) (mL : Nat) (rm : Room) (E : en_T) (av : List Value) (w0 : va_W) (Bw : va_W → Prop) : Prop :=
  ∀ sz : Nat, Met l y (.code y cc mL none :: lw_ws) rm (va_Pc av (fun U => U.heap.size = sz ∧ va_P (en_D E) classes w0 U.heap ∧ en_K E U ∧ en_N U ∧ va_D (fun _ => True) w0))
    (ctQ E w0 none Bw sz) rm.cells rm.slots (va_A w0 sz)
theorem cn_of {l : Launch} {y : MethodName} {cc : ByteArray} {mL : Nat} {rm : Room} {E : en_T} {av : List Value} {w0 : va_W} {Bw : va_W → Prop} (hy : plainName y.cls = true) (hin : y.name = "<init>") (hav : (lg_sl av).length ≤ mL)
    (body : ∀ B : bu_T, bu_l B = l → bu_E B = E → (bu_h B).name = "<init>" → en_N (bu_s B) → cx B cc y.cls rm mL → (∀ (pc : Nat) (lv : List (Nat × Value)) (w1 : va_W), Bw w1 → decode cc pc = .ok (.return_, 1) → gg B mL rm.cells rm.slots pc lv [] w1) → gg B mL 0 0 0 (lv_args 0 av) [] w0) : cn l y cc mL rm E av w0 Bw := fun sz => Met.ofW hy rfl (by
  intro p e s m args below meth c s₁ B hml hv
  obtain ⟨rfl, hsz, hP, hK, hN, hD0⟩ := hv
  have hx := B.exec
  have hb := B.bytes
  have hr := B.returns
  have hts := atoms_spec (ws := .code y cc mL none :: lw_ws) B.pre
  have hown : s.vm.findClass y.cls = some m.cls := findClass_of_methodNamed B.named
  have hlocks := B.notSynchronized
  subst hsz
  have hD := hD0.self (sz := s.heap.size)
  have hl := lv_entry av (n := mL) hav
  rw [lg_entry_eq]
  refine body (p, l, e, rm, s, m, av.toArray, below, meth, c, va_A w0 s.heap.size, E, MQ below (ctQ E w0 none Bw s.heap.size) av.toArray s rm.cells rm.slots (va_A w0 s.heap.size)) rfl rfl (by rw [← hin]; exact (name_of_methodNamed B.named B.method).1) hN ⟨hx, hb, hml, hown, fun x h => hts x (List.mem_cons_of_mem _ h), fun q h => Or.inr h, hK, rfl⟩ ?_ s.heap [] _ hP hD va_S.rf hl
  intro pc lv w1 hw1 hd H locs ls hP1 hD1 hS1 hl1
  show W p l e rm s m av.toArray below meth c H locs rm.cells rm.slots (MQ below (ctQ E w0 none Bw s.heap.size) av.toArray s rm.cells rm.slots (va_A w0 s.heap.size)) (F0 m pc ls [])
  exact W.vret hx hb hr (fun t ht hW => ⟨⟨w1, rfl, hw1, by rw [ht]; exact hP1, hD1⟩, hS1.F ht⟩) hS1.2.2 hd)
theorem cn_blind {E : en_T} {av : List Value} {w0 : va_W} {sz : Nat} : FrameBlind (va_Pc av (fun U => U.heap.size = sz ∧ va_P (en_D E) classes w0 U.heap ∧ en_K E U ∧ en_N U ∧ va_D (fun _ => True) w0)) := fun a U g mk q => by
  obtain ⟨q0, q1, qP, qK, qN, qD⟩ := q
  exact ⟨q0, q1, qP, en_K.moved (u := U) (U := U.calling g mk a) (Vm.Alike.refl U.vm) qK, en_N.same (u := U) (U := U.calling g mk a) rfl qN, qD⟩
section CT
variable {B : bu_T} {cc : ByteArray} {own : String} {rm : Room} {nL k n pc : Nat} {lv lv' : List (Nat × Value)} {st rest : List Value} {w w' : va_W}
theorem gg_new (K : cx B cc own rm nL) {ci index N : Nat} {C : String} {T : u_T} {fs : List Value} {ty : Nat → FieldType} {wf : Nat → va_W} (hin : ∀ x ∈ u_ws C T N, x ∈ lw_ws) (hty : ∀ k, k < N → parseFieldDescriptor (T k).2.2.1 = some (ty k)) (h1 : Cond.classLink own index C ∈ lw_ws) (h2 : Cond.instantiable C N ∈ lw_ws) (h3 : Cond.initialized C ∈ lw_ws) (hc : classes[ci]? = some (C, T, N)) (hfs : ∀ j, j < N → defaultValue (ty j) = vp_V fs j) (hk : k + 1 ≤ rm.cells) (hn : n + N ≤ rm.slots) (hd : decode cc pc = .ok (.new index, 3)) (hw : ∀ q, w ++ [(q, .inr (ci, fs))] = wf q) (kk : ∀ q, gg B nL (k + 1) (n + N) (pc + 3) lv (.ref q :: st) (wf q)) : gg B nL k n pc lv st w := fun H locs ls hP hD hS hl => by
  have hrm : bu_R B = rm := K.2.2.2.2.2.2.2
  exact va_new K.1 K.2.1 K.2.2.2.2.1 hin ty hty K.2.2.2.1 (K.2.2.2.2.1 _ h1) (K.2.2.2.2.1 _ h2) (K.2.2.2.2.1 _ h3) K.2.2.2.2.2.2.1 hP hD hS K.2.2.2.2.2.1 hc hfs (by rw [hrm]; exact hk) (by rw [hrm]; exact hn) hd (fun q H1 hP1 hD1 hS1 => kk q H1 locs ls (by rw [← hw]; exact hP1) (by rw [← hw]; exact hD1) hS1 hl)
theorem gg_newaI (K : cx B cc own rm nL) {i : Int32} {N : Nat} {wf : Nat → va_W} (h1 : Cond.arrayClass .int ∈ lw_ws) (hi : ¬ i < 0) (hN : i.toNatClampNeg = N) (hb : N * componentBytes .int ≤ 536870912) (hk : k + 1 ≤ rm.cells) (hn : n + N ≤ rm.slots) (hd : decode cc pc = .ok (.newarray .int, 2)) (hw : ∀ q, w ++ [(q, .inl (en_I (bu_E B), N, .inl (fun _ => (0 : Int32))))] = wf q) (kk : ∀ q, gg B nL (k + 1) (n + N) (pc + 2) lv (.ref q :: st) (wf q)) : gg B nL k n pc lv (.int i :: st) w := fun H locs ls hP hD hS hl => by
  have hrm : bu_R B = rm := K.2.2.2.2.2.2.2
  refine va_newa (atype := .int) (ty := .int) (a0 := (N, .inl (fun _ => (0 : Int32)))) K.1 K.2.1 (K.2.2.2.2.1 _ h1) rfl K.2.2.2.2.2.2.1 hP hD hS K.2.2.2.2.2.1 (fun cA => rfl) hi hN hb (by rw [hrm]; exact hk) (by rw [hrm]; exact hn) hd (fun q cA H1 hK1 hP1 hD1 hS1 => ?_)
  have e1 := (hK1.2 5 (cA, .int) rfl).2
  have e2 := (hK1.2 0 (en_I (bu_E B), .int) rfl).2
  have e3 : cA = en_I (bu_E B) := Option.some.inj (e1.symm.trans e2)
  subst e3
  exact kk q H1 locs ls (by rw [← hw]; exact hP1) (by rw [← hw]; exact hD1) hS1 hl
theorem gg_newaJ (K : cx B cc own rm nL) {i : Int32} {N : Nat} {wf : Nat → va_W} (h1 : Cond.arrayClass .long ∈ lw_ws) (hi : ¬ i < 0) (hN : i.toNatClampNeg = N) (hb : N * componentBytes .long ≤ 536870912) (hk : k + 1 ≤ rm.cells) (hn : n + N ≤ rm.slots) (hd : decode cc pc = .ok (.newarray .long, 2)) (hw : ∀ q, w ++ [(q, .inl (en_J (bu_E B), N, .inr (.inl (fun _ => (0 : Int64)))))] = wf q) (kk : ∀ q, gg B nL (k + 1) (n + N) (pc + 2) lv (.ref q :: st) (wf q)) : gg B nL k n pc lv (.int i :: st) w := fun H locs ls hP hD hS hl => by
  have hrm : bu_R B = rm := K.2.2.2.2.2.2.2
  refine va_newa (atype := .long) (ty := .long) (a0 := (N, .inr (.inl (fun _ => (0 : Int64))))) K.1 K.2.1 (K.2.2.2.2.1 _ h1) rfl K.2.2.2.2.2.2.1 hP hD hS K.2.2.2.2.2.1 (fun cA => rfl) hi hN hb (by rw [hrm]; exact hk) (by rw [hrm]; exact hn) hd (fun q cA H1 hK1 hP1 hD1 hS1 => ?_)
  have e1 := (hK1.2 5 (cA, .long) rfl).2
  have e2 := (hK1.2 1 (en_J (bu_E B), .long) rfl).2
  have e3 : cA = en_J (bu_E B) := Option.some.inj (e1.symm.trans e2)
  subst e3
  exact kk q H1 locs ls (by rw [← hw]; exact hP1) (by rw [← hw]; exact hD1) hS1 hl
theorem gg_newaZ (K : cx B cc own rm nL) {i : Int32} {N : Nat} {wf : Nat → va_W} (h1 : Cond.arrayClass .boolean ∈ lw_ws) (hi : ¬ i < 0) (hN : i.toNatClampNeg = N) (hb : N * componentBytes .boolean ≤ 536870912) (hk : k + 1 ≤ rm.cells) (hn : n + N ≤ rm.slots) (hd : decode cc pc = .ok (.newarray .boolean, 2)) (hw : ∀ q, w ++ [(q, .inl (en_Z (bu_E B), N, .inl (fun _ => (0 : Int32))))] = wf q) (kk : ∀ q, gg B nL (k + 1) (n + N) (pc + 2) lv (.ref q :: st) (wf q)) : gg B nL k n pc lv (.int i :: st) w := fun H locs ls hP hD hS hl => by
  have hrm : bu_R B = rm := K.2.2.2.2.2.2.2
  refine va_newa (atype := .boolean) (ty := .boolean) (a0 := (N, .inl (fun _ => (0 : Int32)))) K.1 K.2.1 (K.2.2.2.2.1 _ h1) rfl K.2.2.2.2.2.2.1 hP hD hS K.2.2.2.2.2.1 (fun cA => rfl) hi hN hb (by rw [hrm]; exact hk) (by rw [hrm]; exact hn) hd (fun q cA H1 hK1 hP1 hD1 hS1 => ?_)
  have e1 := (hK1.2 5 (cA, .boolean) rfl).2
  have e2 := (hK1.2 2 (en_Z (bu_E B), .boolean) rfl).2
  have e3 : cA = en_Z (bu_E B) := Option.some.inj (e1.symm.trans e2)
  subst e3
  exact kk q H1 locs ls (by rw [← hw]; exact hP1) (by rw [← hw]; exact hD1) hS1 hl
theorem gg_putF (K : cx B cc own rm nL) (hM : (bu_h B).name = "<init>") (q0 kf : Nat) {a ci index N : Nat} {C : String} {T : u_T} {fs : List Value} {v : Value} {ty : FieldType} {ty0 : Nat → FieldType} (hin : ∀ x ∈ u_ws C T N, x ∈ lw_ws) (hty : ∀ k, k < N → parseFieldDescriptor (T k).2.2.1 = some (ty0 k)) (hnm : ∀ a, a < N → ∀ b, b < N → a ≠ b → (T a).2.1 ≠ (T b).2.1) (he : w[q0]? = some (a, .inr (ci, fs))) (hc : classes[ci]? = some (C, T, N)) (hk : kf < N) (hl : Cond.fieldLink own index (T kf).1 (T kf).2.1 (T kf).2.2.1 ∈ lw_ws) (hfin : (T kf).2.2.2 = true) (hdc : (T kf).1 = own) (hdes : parseFieldDescriptor (T kf).2.2.1 = some ty) (hna : narrow ty v = v) (hfi : fits ty v = true) (hlen : kf < fs.length) (hd : decode cc pc = .ok (.putfield index, 3)) (hw : w.set q0 (a, .inr (ci, fs.set kf v)) = w') (kk : gg B nL k n (pc + 3) lv st w') : gg B nL k n pc lv (v :: .ref a :: st) w := fun H locs ls hP hD hS hll => va_putF K.1 K.2.1 K.2.2.2.2.1 hin ty0 hty hnm K.2.2.2.1 K.2.2.2.2.2.2.1 hP hD hS q0 he hc kf hk (K.2.2.2.2.1 _ hl) (fun _ z => z) hfin hM hdc hdes hna hfi hlen hd (fun H1 locs1 hP1 hD1 hS1 => kk H1 locs1 ls (by rw [← hw]; exact hP1) (by rw [← hw]; exact hD1) hS1 hll)
theorem gg_putC (K : cx B cc own rm nL) (q0 kf : Nat) {a ci index N : Nat} {C : String} {T : u_T} {fs : List Value} {v : Value} {ty : FieldType} {ty0 : Nat → FieldType} (hin : ∀ x ∈ u_ws C T N, x ∈ lw_ws) (hty : ∀ k, k < N → parseFieldDescriptor (T k).2.2.1 = some (ty0 k)) (hnm : ∀ a, a < N → ∀ b, b < N → a ≠ b → (T a).2.1 ≠ (T b).2.1) (he : w[q0]? = some (a, .inr (ci, fs))) (hc : classes[ci]? = some (C, T, N)) (hk : kf < N) (hl : Cond.fieldLink own index (T kf).1 (T kf).2.1 (T kf).2.2.1 ∈ lw_ws) (hfin : (T kf).2.2.2 = false) (hdes : parseFieldDescriptor (T kf).2.2.1 = some ty) (hna : narrow ty v = v) (hfi : fits ty v = true) (hlen : kf < fs.length) (hd : decode cc pc = .ok (.putfield index, 3)) (hw : w.set q0 (a, .inr (ci, fs.set kf v)) = w') (kk : gg B nL k n (pc + 3) lv st w') : gg B nL k n pc lv (v :: .ref a :: st) w := fun H locs ls hP hD hS hll => va_put K.1 K.2.1 K.2.2.2.2.1 hin ty0 hty hnm K.2.2.2.1 K.2.2.2.2.2.2.1 hP hD hS q0 he hc kf hk (K.2.2.2.2.1 _ hl) (fun _ z => z) hfin hdes hna hfi hlen hd (fun H1 locs1 hP1 hD1 hS1 => kk H1 locs1 ls (by rw [← hw]; exact hP1) (by rw [← hw]; exact hD1) hS1 hll)
theorem gg_iastC (K : cx B cc own rm nL) (q0 : Nat) {a N : Nat} {f : Nat → Int32} {i x : Int32} (ha : w[q0]? = some (a, .inl (en_I (bu_E B), N, .inl f))) (hi : vp_in i N) (hd : decode cc pc = .ok (.iastore, 1)) (hw : w.set q0 (a, .inl (en_I (bu_E B), N, .inl (upd f i.toNatClampNeg x))) = w') (kk : gg B nL k n (pc + 1) lv st w') : gg B nL k n pc lv (.int x :: .int i :: .ref a :: st) w := fun H locs ls hP hD hS hl => va_iast K.1 K.2.1 K.2.2.2.2.2.2.1 hP hD hS q0 0 ha rfl hi hd (fun H1 locs1 hP1 hD1 hS1 => kk H1 locs1 ls (by rw [← hw]; exact hP1) (by rw [← hw]; exact hD1) hS1 hl)
theorem gg_objI (K : cx B cc own rm nL) {a index : Nat} (h1 : Cond.methodLink own index objectInit ∈ lw_ws) (h2 : Cond.instanceMethod objectInit ∈ lw_ws) (h3 : Cond.code objectInit ⟨#[0xb1]⟩ 1 none ∈ lw_ws) (hf : 1 ≤ rm.frames) (hlo : (st.map fun v => v.category).sum + 12 ≤ rm.locals) (hd : decode cc pc = .ok (.invokespecial index, 3)) (kk : gg B nL k n (pc + 3) lv st w) : gg B nL k n pc lv (.ref a :: st) w := fun H locs ls hP hD hS hl => by
  have hrm : bu_R B = rm := K.2.2.2.2.2.2.2
  refine W.objInit K.1 K.2.1 K.2.2.2.1 (K.2.2.2.2.1 _ h1) (K.2.2.2.2.1 _ h2) (K.2.2.2.2.1 _ h3) rfl (hl.1.trans K.2.2.1.symm) rfl hd (by rw [hrm]; exact hf) (by rw [hrm]; show 2 * 0 + _ + 12 ≤ _; omega) ?_
  exact kk H locs ls hP hD hS hl
variable {y : MethodName} {bytes : ByteArray} {maxL index na : Nat} {rm' : Room} {w0 : va_W} {Bw : va_W → Prop} {As : List Value} {b : Nat}
theorem gg_cI (K : cx B cc own rm nL) (hN : en_N (bu_s B)) (hM : cn (bu_l B) y bytes maxL rm' (bu_E B) (.ref b :: As) w0 Bw) (h1 : Cond.methodLink own index y ∈ lw_ws) (h2 : Cond.instanceMethod y ∈ lw_ws) (h3 : Cond.initialized y.cls ∈ lw_ws) (h4 : Cond.code y bytes maxL none ∈ lw_ws)
    (hd0 : y.cls ≠ "java/lang/invoke/MethodHandle" ∧ y.cls ≠ "java/lang/invoke/VarHandle" ∧ (parseMethodDescriptor y.desc).map (fun d => d.parameters.length) = some na) (hR : rm'.frames + 1 ≤ rm.frames ∧ 8 + (maxL + 11) + rm'.locals ≤ rm.locals) (hcap : k + rm'.cells ≤ rm.cells ∧ n + rm'.slots ≤ rm.slots)
    (isC isR : List Nat) (hC : isC.map (fun i => w[i]?) = w0.map some) (hRw : (isR.map (fun i => w[i]?)).all Option.isSome = true) (hnC : va_nd isC = true) (hn : va_nd isR = true) (hdis : ∀ i ∈ isR, i ∉ isC)
    (hna : As.length = na) (hst : st = As.reverse ++ .ref b :: rest) (hroom : (rest.map fun v => v.category).sum ≤ 8) (hd : decode cc pc = .ok (.invokespecial index, 3))
    (kk : ∀ w1, Bw w1 → gg B nL (k + rm'.cells) (n + rm'.slots) (pc + 3) lv rest (isR.filterMap (fun i => w[i]?) ++ w1)) (hy : y.name = "<init>" := by rfl) : gg B nL k n pc lv st w := by
  intro H locs ls hP hD hS hl
  have hK := K.2.2.2.2.2.2.1
  have hPc := hP.sub (ws' := w0) isC (nd_pick hC)
  have hDc := hD.sub (ws' := w0) isC hnC hC
  refine gg_back (v := none) K H locs ls hP hD hS hl isC isR hC (all_pick hRw) hn hdis ?_ kk
  have hrm : bu_R B = rm := K.2.2.2.2.2.2.2
  exact va_runI (As := As) (rest := rest) ⟨K.1, K.2.1, K.2.2.1, K.2.2.2.1, K.2.2.2.2.1⟩ (hM H.size) (cwI na K.2.2.2.2.1 (good_of (ws := []) h4 (fun x hx => by cases hx)) rfl rfl rfl (K.2.2.2.2.1 _ h3) (K.2.2.2.2.1 _ h1) (K.2.2.2.2.1 _ h2) hy hd0 (by rw [hrm]; exact hR))
    ⟨cn_blind, fun U hU hW => ⟨rfl, by rw [hU], by rw [hU]; exact hPc, en_K.moved hW.alike hK, en_N.warm hW hN, hDc.weaken (fun _ _ _ _ => trivial)⟩⟩ rfl hna hl.1 hst (lv_room hroom) hd (by rw [hrm]; exact hcap)
theorem gg_cIN (K : cx B cc own rm nL) (hN : en_N (bu_s B)) (hM : cn (bu_l B) y bytes maxL rm' (bu_E B) (.ref b :: As) w0 Bw) {host : String} (h1 : va_Nw (.methodLinkNest own index y host) (bu_s B)) (h2 : Cond.instanceMethod y ∈ lw_ws) (h3 : Cond.initialized y.cls ∈ lw_ws) (h4 : Cond.code y bytes maxL none ∈ lw_ws)
    (hd0 : y.cls ≠ "java/lang/invoke/MethodHandle" ∧ y.cls ≠ "java/lang/invoke/VarHandle" ∧ (parseMethodDescriptor y.desc).map (fun d => d.parameters.length) = some na) (hR : rm'.frames + 1 ≤ rm.frames ∧ 8 + (maxL + 11) + rm'.locals ≤ rm.locals) (hcap : k + rm'.cells ≤ rm.cells ∧ n + rm'.slots ≤ rm.slots)
    (isC isR : List Nat) (hC : isC.map (fun i => w[i]?) = w0.map some) (hRw : (isR.map (fun i => w[i]?)).all Option.isSome = true) (hnC : va_nd isC = true) (hn : va_nd isR = true) (hdis : ∀ i ∈ isR, i ∉ isC)
    (hna : As.length = na) (hst : st = As.reverse ++ .ref b :: rest) (hroom : (rest.map fun v => v.category).sum ≤ 8) (hd : decode cc pc = .ok (.invokespecial index, 3))
    (kk : ∀ w1, Bw w1 → gg B nL (k + rm'.cells) (n + rm'.slots) (pc + 3) lv rest (isR.filterMap (fun i => w[i]?) ++ w1)) (hy : y.name = "<init>" := by rfl) : gg B nL k n pc lv st w := by
  intro H locs ls hP hD hS hl
  have hK := K.2.2.2.2.2.2.1
  have hPc := hP.sub (ws' := w0) isC (nd_pick hC)
  have hDc := hD.sub (ws' := w0) isC hnC hC
  refine gg_back (v := none) K H locs ls hP hD hS hl isC isR hC (all_pick hRw) hn hdis ?_ kk
  have hrm : bu_R B = rm := K.2.2.2.2.2.2.2
  exact va_runIN (As := As) (rest := rest) ⟨K.1, K.2.1, K.2.2.1, K.2.2.2.1, K.2.2.2.2.1⟩ (hM H.size) (⟨va_cnB na K.2.2.2.2.1 (good_of (ws := []) h4 (fun x hx => by cases hx)) rfl rfl rfl h1 (K.2.2.2.2.1 _ h3) hd0 (by rw [hrm]; exact hR), hy, K.2.2.2.2.1 _ h2⟩)
    ⟨cn_blind, fun U hU hW => ⟨rfl, by rw [hU], by rw [hU]; exact hPc, en_K.moved hW.alike hK, en_N.warm hW hN, hDc.weaken (fun _ _ _ _ => trivial)⟩⟩ rfl hna hl.1 hst (lv_room hroom) hd (by rw [hrm]; exact hcap)
end CT
