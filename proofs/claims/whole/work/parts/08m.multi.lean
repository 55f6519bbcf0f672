/-! new T[n][m]: the outer row, then one inner row after the other, each laid into the outer one -/
def mg_f (h0 i : Nat) : Nat → Value := fun j => if j < i then .ref (h0 + 1 + j) else .null
def mg_ (T : State) (cA cC : ClassId) (N M : Nat) (dv : Value) : Nat → State
  | 0 => T.pushCell (arrV cA N (mg_f T.heap.size 0))
  | i + 1 => ((mg_ T cA cC N M dv i).pushCell (arrV cC M (fun _ => dv))).setCell T.heap.size (arrV cA N (mg_f T.heap.size (i + 1)))
theorem mg_fs (h0 i : Nat) : updV (mg_f h0 i) i (.ref (h0 + 1 + i)) = mg_f h0 (i + 1) := by
  funext j
  unfold updV mg_f
  by_cases e : j = i
  · subst e; simp
  · by_cases h : j < i
    · simp [e, h, Nat.lt_succ_of_lt h]
    · simp [e, h, show ¬ j < i + 1 by omega]
theorem mg_facts (T : State) (cA cC : ClassId) (N M : Nat) (dv : Value) (i : Nat) : (mg_ T cA cC N M dv i).heap.size = T.heap.size + 1 + i ∧ (mg_ T cA cC N M dv i).heap[T.heap.size]? = some (arrV cA N (mg_f T.heap.size i)) ∧ (mg_ T cA cC N M dv i).vm = T.vm ∧ (mg_ T cA cC N M dv i).slotsUsed = T.slotsUsed + N + i * M ∧ (∀ x, x < T.heap.size → (mg_ T cA cC N M dv i).heap[x]? = T.heap[x]?) ∧ (∀ j, j < i → (mg_ T cA cC N M dv i).heap[T.heap.size + 1 + j]? = some (arrV cC M (fun _ => dv))) := by
  induction i with
  | zero => exact ⟨by simp [mg_], by simp [mg_], rfl, by simp [mg_, arrV_size], fun x hx => State.heap_pushCell_of_lt _ _ hx, fun j h => absurd h (Nat.not_lt_zero j)⟩
  | succ i ih =>
    obtain ⟨a1, a2, a3, a4, a5, a6⟩ := ih
    have hl : T.heap.size < (mg_ T cA cC N M dv i).heap.size := by omega
    have hb : ((mg_ T cA cC N M dv i).pushCell (arrV cC M (fun _ => dv))).heap[T.heap.size]? = some (arrV cA N (mg_f T.heap.size i)) := by rw [State.heap_pushCell_of_lt (h := hl)]; exact a2
    refine ⟨?_, State.heap_setCell_self hb, ?_, ?_, fun x hx => ?_, fun j hj => ?_⟩
    · simp [mg_, State.setCell, a1]; omega
    · simp [mg_, a3]
    · simp [mg_, a4, arrV_size, Nat.succ_mul]; omega
    · show (((mg_ T cA cC N M dv i).pushCell _).setCell T.heap.size _).heap[x]? = _
      have hxl : x < (mg_ T cA cC N M dv i).heap.size := by rw [a1]; omega
      rw [State.heap_setCell_other (show T.heap.size ≠ x by omega), State.heap_pushCell_of_lt (h := hxl)]
      exact a5 x hx
    · show (((mg_ T cA cC N M dv i).pushCell _).setCell T.heap.size _).heap[T.heap.size + 1 + j]? = _
      rw [State.heap_setCell_other (show T.heap.size ≠ T.heap.size + 1 + j by omega)]
      by_cases e : j = i
      · subst e
        rw [← a1]
        exact State.heap_pushCell_size _ _
      · have hxl : T.heap.size + 1 + j < (mg_ T cA cC N M dv i).heap.size := by rw [a1]; omega
        rw [State.heap_pushCell_of_lt (h := hxl)]
        exact a6 j (by omega)
theorem mg_top (T : State) (f : JFrame) (cA cC : ClassId) (N M : Nat) (dv : Value) (i : Nat) : mg_ (T.setTop f) cA cC N M dv i = (mg_ T cA cC N M dv i).setTop f := by
  induction i with
  | zero => rfl
  | succ i ih => simp only [mg_, ih, State.heap_setTop, State.pushCell_setTop, State.setCell_setTop]
section MG
variable {p : Program} {l : Launch} {e : Env} {R : Room} {s : State} {m : MethodId} {args : Array Value} {below : List Frame} {meth : Method} {c : Code} {T : State} {locs : List Loc} {cells slots : Nat}
theorem mg_stand (X : Stand p l e R s m args below meth c T locs cells slots) (cA cC : ClassId) (N M : Nat) (dv : Value) (i : Nat) : Stand p l e R s m args below meth c (mg_ T cA cC N M dv i) locs (cells + 1 + i) (slots + N + i * M) := by
  induction i with
  | zero =>
    have h := X.pushed (arrV cA N (mg_f T.heap.size 0))
    rw [arrV_size] at h
    simpa [mg_] using h
  | succ i ih =>
    obtain ⟨a1, a2, -, -, -, -⟩ := mg_facts T cA cC N M dv i
    have hxl : T.heap.size < (mg_ T cA cC N M dv i).heap.size := by rw [a1]; omega
    have hb : ((mg_ T cA cC N M dv i).pushCell (arrV cC M (fun _ => dv))).heap[T.heap.size]? = some (arrV cA N (mg_f T.heap.size i)) := by rw [State.heap_pushCell_of_lt (h := hxl)]; exact a2
    have h := ih.pushed (arrV cC M (fun _ => dv))
    rw [arrV_size] at h
    have h2 := h.stored hb i (.ref (T.heap.size + 1 + i))
    rw [arrV_store, mg_fs] at h2
    have h3 := Stand.forget h2 (fun q hq => by rw [List.mem_singleton.mp hq]; exact X.heapGrown)
    have e3 : slots + N + (i + 1) * M = slots + N + i * M + M := by rw [Nat.succ_mul]; omega
    rw [e3]
    exact h3
variable {E : CtlPost} {d : Bool} {acts : List Action}
theorem mg_alloc {cA cm : ClassId} {k : Class} {ty : FieldType} {N : Nat} {v : Value} (hk : T.vm.classes[cA]? = some k) (hkind : k.kind = .array cm ty) (hlim : ¬ N > e.platform.arrayLengthLimit) (hhp : ¬ N * componentBytes ty > e.platform.maxHeapBytes) (hfit : fits ty v = true) (hdef : v.isDefault = true) (h1 : T.heap.size < e.platform.maxCells) (h2 : T.slotsUsed + N ≤ e.platform.maxSlots) {Q : Addr → Pre} (hq : Q T.heap.size d acts (T.pushCell (arrV cA N (fun _ => v)))) : wp (Jvm.newArray cA N v) Q E e d acts T := by
  rw [← arrV_new] at hq
  have hall : ((Array.replicate N v).all (·.isDefault)) = true := by
    rw [Array.all_replicate]; split <;> simp [hdef]
  have hda : allocActs (Array.replicate N v) T.heap.size acts = acts := by unfold allocActs; rw [if_pos hall]
  simp only [Jvm.newArray, Jvm.arrayFits, wp_bind', W.ask, W.ite, hlim, if_false, wp_pure', W.theClass, hk, hkind, hhp, W.alloc, W.stop, Option.some.injEq, exists_eq_left', Array.size_replicate, hda]
  rw [if_neg (by omega)]
  refine ⟨h1, h2, fun i x hx => ?_, hq⟩
  rw [Array.getElem?_replicate] at hx
  split at hx
  · cases hx; simp [State.fitsSlot, State.slotType?, hk, hkind, hfit]
  · cases hx
theorem mg_ref {t : FieldType} (h : t.isReference = true) (a : Nat) : fits t .null = true ∧ fits t (.ref a) = true := by
  cases t <;> simp [FieldType.isReference] at h <;> exact ⟨rfl, rfl⟩
theorem mg_make {cA cC cm : ClassId} {kA kC : Class} {ty : FieldType} {n q : Int32} (hkA : T.vm.classes[cA]? = some kA) (hA : kA.kind = .array cC (.array ty)) (hkC : T.vm.classes[cC]? = some kC) (hC : kC.kind = .array cm ty) (hn : ¬ n < 0) (hq0 : ¬ q < 0)
    (hl1 : ¬ n.toNatClampNeg > e.platform.arrayLengthLimit) (hh1 : ¬ n.toNatClampNeg * componentBytes (.array ty) > e.platform.maxHeapBytes) (hl2 : ¬ q.toNatClampNeg > e.platform.arrayLengthLimit) (hh2 : ¬ q.toNatClampNeg * componentBytes ty > e.platform.maxHeapBytes)
    (hdf : fits ty (defaultValue ty) = true) (hdd : (defaultValue ty).isDefault = true) (hc : T.heap.size + 1 + n.toNatClampNeg ≤ e.platform.maxCells) (hs : T.slotsUsed + n.toNatClampNeg + n.toNatClampNeg * q.toNatClampNeg ≤ e.platform.maxSlots)
    {Q : Addr → Pre} (hq : ∀ d' acts', Q T.heap.size d' acts' (mg_ T cA cC n.toNatClampNeg q.toNatClampNeg (defaultValue ty) n.toNatClampNeg)) : wp (multianewarray.make cA [n, q]) Q E e d acts T := by
  generalize hN : n.toNatClampNeg = N at *
  generalize hM : q.toNatClampNeg = M at *
  have hfind : ([q].find? (· < 0)) = none := by simp [hq0]
  rw [multianewarray.make]
  simp only [wp_bind', W.ite, hn, if_false, wp_pure', W.theClass, hkA, hA, Option.some.injEq, exists_eq_left', hN]
  refine mg_alloc hkA hA hl1 hh1 (mg_ref rfl 0).1 rfl (by omega) (by have := Nat.zero_le (N * M); omega) ?_
  simp only [hfind]
  rw [ite_self, wp_bind', Std.Legacy.Range.forIn_eq_forIn_range']
  have hsz : ([:N] : Std.Legacy.Range).size = N := by simp [Std.Legacy.Range.size]
  rw [hsz]
  show wp (forIn (List.range' 0 N 1) PUnit.unit _) _ E e d acts _
  refine wp_forIn_inv (fun rest S => ∃ i, i ≤ N ∧ rest = List.range' i (N - i) ∧ S = mg_ T cA cC N M (defaultValue ty) i) _ _ ⟨0, Nat.zero_le _, rfl, rfl⟩ ?_ ?_
  · rintro x rest S d' acts' Q' ⟨i, hi, hr, rfl⟩ hnext
    have hlt : i < N := by
      rcases Nat.lt_or_ge i N with h | h
      · exact h
      · rw [show N - i = 0 by omega] at hr; simp at hr
    rw [show N - i = (N - (i + 1)) + 1 by omega, List.range'_succ] at hr
    obtain ⟨rfl, hrest⟩ := List.cons.inj hr
    obtain ⟨a1, a2, a3, a4, -, -⟩ := mg_facts T cA cC N M (defaultValue ty) x
    have hmul : x * M + M ≤ N * M := by
      have := Nat.mul_le_mul_right M (show x + 1 ≤ N from hlt)
      rw [Nat.succ_mul] at this; exact this
    have hkC' : (mg_ T cA cC N M (defaultValue ty) x).vm.classes[cC]? = some kC := by rw [a3]; exact hkC
    simp only [wp_bind']
    rw [multianewarray.make]
    simp only [wp_bind', W.ite, hq0, if_false, wp_pure', W.theClass, hkC', hC, Option.some.injEq, exists_eq_left', hM]
    refine mg_alloc hkC' hC hl2 hh2 hdf hdd (by rw [a1]; omega) (by rw [a4]; omega) ?_
    simp only [wp_bind', W.writeLoc, wp_pure']
    have hxl : T.heap.size < (mg_ T cA cC N M (defaultValue ty) x).heap.size := by rw [a1]; omega
    refine ⟨arrV cA N (mg_f T.heap.size x), by rw [State.heap_pushCell_of_lt (h := hxl)]; exact a2, (by intro h; cases h), by rw [arrV_size]; exact hlt, ?_, hnext _ _ _ ⟨x + 1, hlt, hrest, ?_⟩⟩
    · show State.fitsSlot _ cA .none x _ = true
      simp [State.fitsSlot, State.slotType?, a3, hkA, hA, (mg_ref (t := .array ty) rfl _).2]
    · rw [a1, arrV_store, mg_fs]; rfl
  · rintro S d' acts' ⟨i, hi, hr, rfl⟩
    have hiN : i = N := by
      rcases Nat.lt_or_ge i N with h | h
      · rw [show N - i = (N - (i + 1)) + 1 by omega, List.range'_succ] at hr; cases hr
      · omega
    subst hiN
    simp only [wp_pure']
    exact hq _ _
theorem mg_step (X : Stand p l e R s m args below meth c T locs cells slots) (hexec : p.tables.exec = Jvm.exec) {own : String} {index : Nat} {ty : FieldType} {N M : Nat} (hown : s.vm.findClass own = some m.cls) (hcl0 : (Cond.classLink own index ("[" ++ (FieldType.array ty).toString)).before args s = true) (hover : va_AOB ty s) (harr : (Cond.arrayClass ty).before args s = true)
    {g : JFrame} (hg : g.method = m) (hdg : decode c.code g.pc = .ok (.multianewarray index 2, 4)) {n q : Int32} {rest : List Value} (hst : g.stack = .int q :: .int n :: rest) (hn : ¬ n < 0) (hq : ¬ q < 0) (hN : n.toNatClampNeg = N) (hM : q.toNatClampNeg = M) (hb1 : N * 4 ≤ 536870912) (hb2 : M * componentBytes ty ≤ 536870912) (hb3 : M ≤ 536870912)
    (hdf : fits ty (defaultValue ty) = true) (hdd : (defaultValue ty).isDefault = true) (hcells : cells + (1 + N) ≤ R.cells) (hslots : slots + (N + N * M) ≤ R.slots) :
    ∃ (vm₁ : Vm) (cA cC : ClassId), s.vm.findClass ("[" ++ (FieldType.array ty).toString) = some cA ∧ s.vm.findClass (FieldType.array ty).toString = some cC ∧
      Stand p l e R s m args below meth c (mg_ (T.setVm vm₁) cA cC N M (defaultValue ty) N) locs (cells + (1 + N)) (slots + (N + N * M)) ∧
      ∀ tg, Steps p.tables e below ((mg_ (T.setVm vm₁) cA cC N M (defaultValue ty) N).setTop { g with pc := g.pc + 4, stack := .ref T.heap.size :: rest }) tg → Steps p.tables e below (T.setTop g) tg := by
  subst hg
  have hpl : e.platform.magicAccessors = ({} : Platform).magicAccessors := by rw [X.admits.platform]
  obtain ⟨cC, cA, kA, hfC, -, hkA, hA, hfA⟩ := ao_spec hover
  obtain ⟨cC', kC, cm, hfC', hkC, hC⟩ := Cond.arrayClass_spec harr
  have ec : cC' = cC := Option.some.inj (hfC'.symm.trans hfC)
  subst ec
  obtain ⟨c0, hfc0, hcl⟩ := Cond.classLink_spec hown hcl0 e.platform hpl
  have ea : cA = c0 := Option.some.inj (hfA.symm.trans hfc0)
  subst ea
  obtain ⟨hg₁, hwarm, hready⟩ := State.classEntry (e := e) X.warmed hcl
  generalize T.vm.noted g.method.cls index (.cls cA) = vm₁ at hg₁ hwarm hready
  obtain ⟨kA', hkA', heA⟩ := hwarm.alike.2.2 _ _ hkA
  obtain ⟨kC', hkC', heC⟩ := hwarm.alike.2.2 _ _ hkC
  have hA' : kA'.kind = .array cC' (.array ty) := by rw [heA]; exact hA
  have hC' : kC'.kind = .array cm ty := by rw [heC]; exact hC
  have X₁ := X.noted hwarm
  have XF := mg_stand X₁ cA cC' N M (defaultValue ty) N
  obtain ⟨hr1, hr2⟩ := X.roomAbove hcells hslots
  have e1 : cells + (1 + N) = cells + 1 + N := by omega
  have e2 : slots + (N + N * M) = slots + N + N * M := by omega
  refine ⟨vm₁, cA, cC', hfA, hfC, by rw [e1, e2]; exact XF, fun tg hrest => ?_⟩
  have hl1 : ¬ N > e.platform.arrayLengthLimit := by rw [Launch.admits_arrayLengthLimit X.admits]; omega
  have hh1 : ¬ N * componentBytes (.array ty) > e.platform.maxHeapBytes := by
    rw [Launch.admits_maxHeapBytes X.admits]; show ¬ N * 4 > 536870912; omega
  have hl2 : ¬ M > e.platform.arrayLengthLimit := by rw [Launch.admits_arrayLengthLimit X.admits]; omega
  have hh2 : ¬ M * componentBytes ty > e.platform.maxHeapBytes := by rw [Launch.admits_maxHeapBytes X.admits]; omega
  subst hN
  subst hM
  jvm_step X.here [hexec, hdg]
  simp only [multianewarray.sem, wp_bind', W.resolveClassAt_links (State.method?_setTop g X.here.top) hg₁]
  rw [W.popN, if_neg (by decide)]
  refine ⟨g, State.topJava?_setTop' (s := T.setVm vm₁) g X.here.top, [.int n, .int q], rest, rfl, hst, ?_⟩
  simp only [List.mapM_cons, List.mapM_nil, wp_bind', wp_pure']
  refine mg_make hkA' hA' hkC' hC' hn hq hl1 hh1 hl2 hh2 hdf hdd (by show T.heap.size + 1 + _ ≤ _; omega) (by show T.slotsUsed + _ + _ ≤ _; omega) (fun d' acts' => ?_)
  have eS : ((T.setTop g).setVm vm₁).setTop { g with stack := rest } = (T.setVm vm₁).setTop { g with stack := rest } := by
    show ((T.setVm vm₁).setTop g).setTop _ = _
    rw [State.setTop_setTop]
  rw [eS, mg_top]
  simp only [wp_bind', W.mark, W.pushRef, State.topJava?_setTop' _ XF.here.top, Option.some.injEq, exists_eq_left', State.setTop_setTop, State.heap_setTop]
  intro acts
  simp [jvm, XF.here.top]
  exact hrest
end MG
/-- the cells behind it, as the worlds have them -/
theorem mg_world {D : va_G} {cl : List vw_C} {A : Nat → Prop} {w : va_W} {H0 H H1 : Heap} {locs : List Loc} (N : Nat) {cA cC : ClassId} {z : vp_A} (hP : va_P D cl w H) (hD : va_D A w) (hS : va_S A H0 H locs) (hA : ∀ q, H0.size ≤ q → A q) (h1 : H1.size = H.size + 1 + N) (h2 : H1[H.size]? = some (vp_cell cA (N, .inr (.inr (.inr (.inr (go_ N (fun i => H.size + 1 + i)))))))) (h3 : ∀ x, x < H.size → H1[x]? = H[x]?) (h4 : ∀ j, j < N → H1[H.size + 1 + j]? = some (vp_cell cC z)) :
    va_P D cl (w ++ (H.size, .inl (cA, N, .inr (.inr (.inr (.inr (go_ N (fun i => H.size + 1 + i))))))) :: (List.range N).map (fun i => (H.size + 1 + i, .inl (cC, z)))) H1 ∧ va_D A (w ++ (H.size, .inl (cA, N, .inr (.inr (.inr (.inr (go_ N (fun i => H.size + 1 + i))))))) :: (List.range N).map (fun i => (H.size + 1 + i, .inl (cC, z)))) ∧ va_S A H0 H1 locs := by
  have hnew : ∀ (k : Nat) (q : Nat × va_E), ((H.size, (.inl (cA, N, .inr (.inr (.inr (.inr (go_ N (fun i => H.size + 1 + i)))))) : va_E)) :: (List.range N).map (fun i => (H.size + 1 + i, (.inl (cC, z) : va_E))))[k]? = some q → q.1 = H.size + k ∧ va_at D cl q H1 := by
    intro k q hk
    cases k with
    | zero => cases hk; exact ⟨rfl, h2⟩
    | succ k =>
      rw [List.getElem?_cons_succ, List.getElem?_map] at hk
      by_cases hN : k < N
      · rw [List.getElem?_range hN] at hk
        cases hk
        exact ⟨by show H.size + 1 + k = H.size + (k + 1); omega, h4 k hN⟩
      · rw [List.getElem?_eq_none (by rw [List.length_range]; omega)] at hk
        cases hk
  refine ⟨(hP.kept (fun k q hk => h3 q.1 ((hP k q hk).lt))).app (fun k q hk => (hnew k q hk).2), va_D.app hD ⟨fun i j x y hx hy hxy => by have a := (hnew i x hx).1; have b := (hnew j y hy).1; omega, fun k q hk => hA _ (by have a := (hnew k q hk).1; have b := hS.1; omega)⟩ (fun i j x y hx hy hxy => by have a := (hP i x hx).lt; have b := (hnew j y hy).1; omega), ⟨by rw [h1]; have := hS.1; omega, fun q a b => (h3 q (Nat.lt_of_lt_of_le a hS.1)).trans (hS.2.1 q a b), hS.2.2⟩⟩
theorem gg_mnaI_6_6 {B : bu_T} {cc : ByteArray} {own : String} {rm : Room} {nL k n pc : Nat} {lv : List (Nat × Value)} {st : List Value} {w : va_W} (K : cx B cc own rm nL) (hN : en_N (bu_s B)) {index : Nat} {wf : Nat → (Nat → Nat) → va_W} (h1 : Cond.classLink own index "[[I" ∈ lw_ws) (h2 : Cond.arrayClass .int ∈ lw_ws) (hk : k + (1 + 6) ≤ rm.cells) (hn : n + (6 + 6 * 6) ≤ rm.slots) (hd : decode cc pc = .ok (.multianewarray index 2, 4)) (hw : ∀ a r, w ++ [(a, .inl (en_II (bu_E B), 6, .inr (.inr (.inr (.inr (go_ 6 r)))))), (r 0, .inl (en_I (bu_E B), 6, .inl (fun _ => (0 : Int32)))), (r 1, .inl (en_I (bu_E B), 6, .inl (fun _ => (0 : Int32)))), (r 2, .inl (en_I (bu_E B), 6, .inl (fun _ => (0 : Int32)))), (r 3, .inl (en_I (bu_E B), 6, .inl (fun _ => (0 : Int32)))), (r 4, .inl (en_I (bu_E B), 6, .inl (fun _ => (0 : Int32)))), (r 5, .inl (en_I (bu_E B), 6, .inl (fun _ => (0 : Int32))))] = wf a r) (kk : ∀ a r, gg B nL (k + (1 + 6)) (n + (6 + 6 * 6)) (pc + 4) lv (.ref a :: st) (wf a r)) : gg B nL k n pc lv (.int (6 : Int32) :: .int (6 : Int32) :: st) w := by
  intro H locs ls hP hD hS hl
  have hrm : bu_R B = rm := K.2.2.2.2.2.2.2
  have hcc := K.2.1
  intro T hT X
  obtain ⟨vm₁, cA, cC, fA, fC, X', step⟩ := mg_step (ty := .int) (N := 6) (M := 6) X K.1 K.2.2.2.1 (K.2.2.2.2.1 _ h1) hN.2.1 (K.2.2.2.2.1 _ h2) (g := F0 (bu_m B) pc ls (.int (6 : Int32) :: .int (6 : Int32) :: st)) rfl (by rw [hcc]; exact hd) rfl (by decide) (by decide) rfl rfl (by decide) (by decide) (by decide) rfl rfl (by rw [hrm]; exact hk) (by rw [hrm]; exact hn)
  have eA : cA = en_II (bu_E B) := Option.some.inj (fA.symm.trans (K.2.2.2.2.2.2.1.2 3 (en_II (bu_E B), .array .int) rfl).2)
  have eC : cC = en_I (bu_E B) := Option.some.inj (fC.symm.trans (K.2.2.2.2.2.2.1.2 0 (en_I (bu_E B), .int) rfl).2)
  subst eA
  subst eC
  obtain ⟨a1, a2, -, -, a5, a6⟩ := mg_facts (T.setVm vm₁) (en_II (bu_E B)) (en_I (bu_E B)) 6 6 (defaultValue .int) 6
  have hTh : (T.setVm vm₁).heap = H := hT
  rw [hTh] at a1 a2 a5 a6
  have hTs : T.heap.size = H.size := by rw [hT]
  have ef : arrV (en_II (bu_E B)) 6 (mg_f H.size 6) = vp_cell (en_II (bu_E B)) (6, .inr (.inr (.inr (.inr (go_ 6 (fun i => H.size + 1 + i)))))) := by
    rw [vp_cell_q]
    refine congrArg (arrV (en_II (bu_E B)) 6) (funext fun j => ?_)
    unfold mg_f go_
    split <;> rfl
  rw [ef] at a2
  obtain ⟨hP1, hD1, hS1⟩ := mg_world (z := (6, .inl (fun _ => (0 : Int32)))) 6 hP hD hS K.2.2.2.2.2.1 a1 a2 a5 (fun j hj => a6 j hj)
  obtain ⟨t, b1, b2⟩ := kk H.size (fun i => H.size + 1 + i) _ locs ls (by rw [← hw]; exact hP1) (by rw [← hw]; exact hD1) hS1 hl _ rfl X'
  refine ⟨t, step t ?_, b2⟩
  rw [hTs]
  exact b1
theorem gg_mnaJ_8_6 {B : bu_T} {cc : ByteArray} {own : String} {rm : Room} {nL k n pc : Nat} {lv : List (Nat × Value)} {st : List Value} {w : va_W} (K : cx B cc own rm nL) (hN : en_N (bu_s B)) {index : Nat} {wf : Nat → (Nat → Nat) → va_W} (h1 : Cond.classLink own index "[[J" ∈ lw_ws) (h2 : Cond.arrayClass .long ∈ lw_ws) (hk : k + (1 + 8) ≤ rm.cells) (hn : n + (8 + 8 * 6) ≤ rm.slots) (hd : decode cc pc = .ok (.multianewarray index 2, 4)) (hw : ∀ a r, w ++ [(a, .inl (en_JJ (bu_E B), 8, .inr (.inr (.inr (.inr (go_ 8 r)))))), (r 0, .inl (en_J (bu_E B), 6, .inr (.inl (fun _ => (0 : Int64))))), (r 1, .inl (en_J (bu_E B), 6, .inr (.inl (fun _ => (0 : Int64))))), (r 2, .inl (en_J (bu_E B), 6, .inr (.inl (fun _ => (0 : Int64))))), (r 3, .inl (en_J (bu_E B), 6, .inr (.inl (fun _ => (0 : Int64))))), (r 4, .inl (en_J (bu_E B), 6, .inr (.inl (fun _ => (0 : Int64))))), (r 5, .inl (en_J (bu_E B), 6, .inr (.inl (fun _ => (0 : Int64))))), (r 6, .inl (en_J (bu_E B), 6, .inr (.inl (fun _ => (0 : Int64))))), (r 7, .inl (en_J (bu_E B), 6, .inr (.inl (fun _ => (0 : Int64)))))] = wf a r) (kk : ∀ a r, gg B nL (k + (1 + 8)) (n + (8 + 8 * 6)) (pc + 4) lv (.ref a :: st) (wf a r)) : gg B nL k n pc lv (.int (6 : Int32) :: .int (8 : Int32) :: st) w := by
  intro H locs ls hP hD hS hl
  have hrm : bu_R B = rm := K.2.2.2.2.2.2.2
  have hcc := K.2.1
  intro T hT X
  obtain ⟨vm₁, cA, cC, fA, fC, X', step⟩ := mg_step (ty := .long) (N := 8) (M := 6) X K.1 K.2.2.2.1 (K.2.2.2.2.1 _ h1) hN.2.2 (K.2.2.2.2.1 _ h2) (g := F0 (bu_m B) pc ls (.int (6 : Int32) :: .int (8 : Int32) :: st)) rfl (by rw [hcc]; exact hd) rfl (by decide) (by decide) rfl rfl (by decide) (by decide) (by decide) rfl rfl (by rw [hrm]; exact hk) (by rw [hrm]; exact hn)
  have eA : cA = en_JJ (bu_E B) := Option.some.inj (fA.symm.trans (K.2.2.2.2.2.2.1.2 4 (en_JJ (bu_E B), .array .long) rfl).2)
  have eC : cC = en_J (bu_E B) := Option.some.inj (fC.symm.trans (K.2.2.2.2.2.2.1.2 1 (en_J (bu_E B), .long) rfl).2)
  subst eA
  subst eC
  obtain ⟨a1, a2, -, -, a5, a6⟩ := mg_facts (T.setVm vm₁) (en_JJ (bu_E B)) (en_J (bu_E B)) 8 6 (defaultValue .long) 8
  have hTh : (T.setVm vm₁).heap = H := hT
  rw [hTh] at a1 a2 a5 a6
  have hTs : T.heap.size = H.size := by rw [hT]
  have ef : arrV (en_JJ (bu_E B)) 8 (mg_f H.size 8) = vp_cell (en_JJ (bu_E B)) (8, .inr (.inr (.inr (.inr (go_ 8 (fun i => H.size + 1 + i)))))) := by
    rw [vp_cell_q]
    refine congrArg (arrV (en_JJ (bu_E B)) 8) (funext fun j => ?_)
    unfold mg_f go_
    split <;> rfl
  rw [ef] at a2
  obtain ⟨hP1, hD1, hS1⟩ := mg_world (z := (6, .inr (.inl (fun _ => (0 : Int64))))) 8 hP hD hS K.2.2.2.2.2.1 a1 a2 a5 (fun j hj => a6 j hj)
  obtain ⟨t, b1, b2⟩ := kk H.size (fun i => H.size + 1 + i) _ locs ls (by rw [← hw]; exact hP1) (by rw [← hw]; exact hD1) hS1 hl _ rfl X'
  refine ⟨t, step t ?_, b2⟩
  rw [hTs]
  exact b1
