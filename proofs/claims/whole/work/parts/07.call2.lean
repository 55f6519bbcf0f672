def pk_ {α : Type} : List Bool → List α → List α
  | true :: ms, _ :: a => pk_ ms a
  | false :: ms, x :: a => x :: pk_ ms a
  | _, _ => []
theorem pk_same {α : Type} {ms : List Bool} {w w' : List α} (h1 : ms.length = w.length) (h2 : ms.length = w'.length) (h : pk_ ms w = pk_ ms w') {i : Nat} (hi : ms[i]? = some false) : w[i]? = w'[i]? := by
  induction ms generalizing w w' i with
  | nil => simp at hi
  | cons b ms ih =>
    cases w with
    | nil => simp at h1
    | cons x w =>
      cases w' with
      | nil => simp at h2
      | cons y w' =>
        simp only [List.length_cons, Nat.add_right_cancel_iff] at h1 h2
        cases b with
        | true =>
          cases i with
          | zero => simp at hi
          | succ i => simpa using ih h1 h2 h (by simpa using hi)
        | false =>
          simp only [pk_, List.cons.injEq] at h
          cases i with
          | zero => simp [h.1]
          | succ i => simpa using ih h1 h2 h.2 (by simpa using hi)
section GC2
variable {B : bu_T} {cc : ByteArray} {own : String} {rm : Room} {nL k n pc : Nat} {lv lv' : List (Nat × Value)} {st st' rest : List Value} {w w' : va_W}
variable {y : MethodName} {bytes : ByteArray} {maxL index na : Nat} {ret : Option FieldType} {rm' : Room} {w0 w1 : va_W} {v : Option Value} {As : List Value} {b : Nat}
/-- behind a call that makes no cell: the callee's cells at their places, the others as they were -/
theorem gg_back2 (K : cx B cc own rm nL) (H : Heap) (locs : List Loc) (ls : Array Slot) (hP : va_P (en_D (bu_E B)) classes w H) (hD : va_D (bu_A B) w) (hS : va_S (bu_A B) (bu_s B).heap H locs) (hl : lv_has ls nL lv)
    (isC : List Nat) (ms : List Bool) (hC : isC.map (fun i => w[i]?) = w0.map some) (hC' : isC.map (fun i => w'[i]?) = w1.map some) (hfst : w'.map Prod.fst = w.map Prod.fst) (hpk : pk_ ms w = pk_ ms w') (hml : ms.length = w.length) (hmk : ms = (List.range ms.length).map (fun i => isC.contains i)) (hz : rm'.cells = 0 ∧ rm'.slots = 0)
    (hr : va_Run (bu_p B) (bu_l B) (bu_e B) (bu_R B) (bu_s B) (bu_m B) (bu_a B) (bu_b B) (bu_h B) (bu_c B) H locs k n rm'.cells rm'.slots (F0 (bu_m B) pc ls st) rest (fun stt oc t => (∃ wx, oc = .returned v ∧ wx = w1 ∧ va_P (en_D (bu_E B)) classes wx t.heap ∧ va_D (va_A w0 H.size) wx) ∧ va_F (va_A w0 H.size) stt t) (va_A w0 H.size))
    (kk : gg B nL k n (pc + 3) lv (v.toList ++ rest) w') : bu_W B H locs k n (F0 (bu_m B) pc ls st) := by
  have hA := K.2.2.2.2.2.1
  have hF := va_free (wc := w0) hD hS hA isC hC
  have hml' : ms.length = w'.length := by rw [hml, ← List.length_map (f := Prod.fst) (as := w), ← hfst, List.length_map]
  have hmi : ∀ i, i < ms.length → ms[i]? = some (isC.contains i) := fun i hi => by
    have h1 : ((List.range ms.length).map (fun i => isC.contains i))[i]? = some (isC.contains i) := by rw [List.getElem?_map, List.getElem?_range hi]; rfl
    rw [← hmk] at h1
    exact h1
  have at' : ∀ {x z : va_W}, isC.map (fun i => x[i]?) = z.map some → ∀ (j i : Nat), isC[j]? = some i → x[i]? = z[j]? := fun {x z} hx j i hj => by
    have h1 : (isC.map (fun i => x[i]?))[j]? = some (x[i]?) := by rw [List.getElem?_map, hj]; rfl
    rw [hx, List.getElem?_map] at h1
    cases hz9 : z[j]? with
    | none => rw [hz9] at h1; cases h1
    | some q => rw [hz9] at h1; exact (Option.some.inj h1).symm
  have bk' : ∀ {x z : va_W}, isC.map (fun i => x[i]?) = z.map some → ∀ (j : Nat) (q : Nat × va_E), z[j]? = some q → ∃ i, isC[j]? = some i ∧ x[i]? = some q := fun {x z} hx j q hj => by
    have h1 : (isC.map (fun i => x[i]?))[j]? = some (some q) := by rw [hx, List.getElem?_map, hj]; rfl
    rw [List.getElem?_map] at h1
    cases hi : isC[j]? with
    | none => rw [hi] at h1; cases h1
    | some i => rw [hi] at h1; exact ⟨i, rfl, Option.some.inj h1⟩
  intro T hT X
  obtain ⟨v', st₀, t, T', L, h0, X', hL, e1, e2, ⟨⟨wx, hv, hw1, hP1, hD1⟩, hzz, hk⟩, step⟩ := hr T hT X
  subst hw1
  have hv' : v' = v := by injection hv
  subst hv'
  rw [h0] at hzz hk
  rw [← e1] at hzz hk hP1
  have hP2 : va_P (en_D (bu_E B)) classes w' T'.heap := fun i q hi => by
    have hlt : i < ms.length := by rw [hml']; exact (List.getElem?_eq_some_iff.mp hi).1
    cases hc : isC.contains i with
    | true =>
      obtain ⟨j, hj⟩ := List.getElem?_of_mem (List.contains_iff_mem.mp hc)
      exact hP1 j q (by rw [← at' hC' j i hj]; exact hi)
    | false =>
      have hmf : ms[i]? = some false := by rw [hmi i hlt, hc]
      have hwi : w[i]? = some q := by rw [pk_same hml hml' hpk hmf]; exact hi
      refine (hP i q hwi).kept (hk q.1 (hP i q hwi).lt (fun hva => ?_))
      rcases hva with ⟨k2, e9, h9⟩ | h9
      · obtain ⟨i2, h3, h4⟩ := bk' hC k2 (q.1, e9) h9
        have hii := hD.1 i i2 q (q.1, e9) hwi h4 rfl
        subst hii
        have := List.contains_iff_mem.mpr (List.mem_of_getElem? h3)
        rw [hc] at this
        cases this
      · exact absurd ((hP i q hwi).lt) (by omega)
  have hfi : ∀ (i : Nat) (q : Nat × va_E), w'[i]? = some q → ∃ q0, w[i]? = some q0 ∧ q0.1 = q.1 := fun i q hi => by
    have h1 : (w'.map Prod.fst)[i]? = some q.1 := by rw [List.getElem?_map, hi]; rfl
    rw [hfst, List.getElem?_map] at h1
    cases hq : w[i]? with
    | none => rw [hq] at h1; cases h1
    | some q0 => rw [hq] at h1; exact ⟨q0, rfl, Option.some.inj h1⟩
  have hD2 : va_D (bu_A B) w' := ⟨fun i j x z hx hz hxz => by
    obtain ⟨x0, a1, a2⟩ := hfi i x hx
    obtain ⟨z0, b1, b2⟩ := hfi j z hz
    exact hD.1 i j x0 z0 a1 b1 (by rw [a2, b2, hxz]), fun i q hi => by
    obtain ⟨q0, a1, a2⟩ := hfi i q hi
    rw [← a2]
    exact hD.2 i q0 a1⟩
  have hS2 : va_S (bu_A B) (bu_s B).heap T'.heap (locs ++ L) := ⟨Nat.le_trans hS.1 hzz, fun q h1 h2 => by rw [hk q (Nat.lt_of_lt_of_le h1 hS.1) (fun z => h2 (hF q z))]; exact hS.2.1 q h1 h2, fun q hq => by
    rcases List.mem_append.mp hq with h | h
    · exact hS.2.2 q h
    · exact hF _ (hL q h)⟩
  rw [hz.1, hz.2] at X'
  obtain ⟨t2, a1, b1⟩ := kk T'.heap (locs ++ L) ls hP2 hD2 hS2 hl T' rfl X'
  exact ⟨t2, step t2 a1, b1⟩
theorem gg_dS (K : cx B cc own rm nL) (hM : ct (bu_l B) y bytes maxL ret rm' (bu_E B) As w0 v (fun x => x = w1)) (hz : rm'.cells = 0 ∧ rm'.slots = 0) (h1 : Cond.methodLink own index y ∈ lw_ws) (h2 : Cond.static y ∈ lw_ws) (h3 : Cond.initialized y.cls ∈ lw_ws) (h4 : Cond.code y bytes maxL ret ∈ lw_ws)
    (hd0 : y.cls ≠ "java/lang/invoke/MethodHandle" ∧ y.cls ≠ "java/lang/invoke/VarHandle" ∧ (parseMethodDescriptor y.desc).map (fun d => d.parameters.length) = some na) (hR : rm'.frames + 1 ≤ rm.frames ∧ 8 + (maxL + 11) + rm'.locals ≤ rm.locals)
    (isC : List Nat) (ms : List Bool) (hC : isC.map (fun i => w[i]?) = w0.map some) (hC' : isC.map (fun i => w'[i]?) = w1.map some) (hnC : va_nd isC = true) (hfst : w'.map Prod.fst = w.map Prod.fst) (hpk : pk_ ms w = pk_ ms w') (hml : ms.length = w.length) (hmk : ms = (List.range ms.length).map (fun i => isC.contains i))
    (hna : As.length = na) (hst : st = As.reverse ++ rest) (hs' : v.toList ++ rest = st') (hcap : k ≤ rm.cells ∧ n ≤ rm.slots) (hroom : (rest.map fun v => v.category).sum ≤ 8) (hd : decode cc pc = .ok (.invokestatic index, 3))
    (kk : gg B nL k n (pc + 3) lv st' w') : gg B nL k n pc lv st w := by
  intro H locs ls hP hD hS hl
  have hK := K.2.2.2.2.2.2.1
  have hPc := hP.sub (ws' := w0) isC (nd_pick hC)
  have hDc := hD.sub (ws' := w0) isC hnC hC
  refine gg_back2 K H locs ls hP hD hS hl isC ms hC hC' hfst hpk hml hmk hz ?_ (by rw [hs']; exact kk)
  have hrm : bu_R B = rm := K.2.2.2.2.2.2.2
  exact va_runS (As := As) (rest := rest) ⟨K.1, K.2.1, K.2.2.1, K.2.2.2.1, K.2.2.2.2.1⟩ (hM H.size) (va_cwS na K.2.2.2.2.1 (good_of (ws := [.methodLink own index y, .static y, .initialized y.cls]) h4 (by intro x hx; simp only [List.mem_cons, List.not_mem_nil, or_false] at hx; rcases hx with rfl | rfl | rfl <;> assumption)) rfl rfl rfl hd0 (by rw [hrm]; exact hR))
    ⟨ct_blind, fun U hU hW => ⟨rfl, by rw [hU], by rw [hU]; exact hPc, en_K.moved hW.alike hK, hDc.weaken (fun _ _ _ _ => trivial)⟩⟩ rfl hna hl.1 hst (lv_room hroom) hd (by rw [hrm, hz.1, hz.2]; exact hcap)
theorem gg_dV (K : cx B cc own rm nL) {C : String} {ci N : Nat} {T : u_T} {fs : List Value} (hM : ct (bu_l B) y bytes maxL ret rm' (bu_E B) (.ref b :: As) w0 v (fun x => x = w1)) (hz : rm'.cells = 0 ∧ rm'.slots = 0) (h1 : Cond.methodLink own index y ∈ lw_ws) (h2 : Cond.instanceMethod y ∈ lw_ws) (h3 : Cond.selects C y y ∈ lw_ws) (h5 : Cond.initialized C ∈ lw_ws) (h4 : Cond.code y bytes maxL ret ∈ lw_ws)
    (hd0 : y.cls = C ∧ y.cls ≠ "java/lang/invoke/MethodHandle" ∧ y.cls ≠ "java/lang/invoke/VarHandle" ∧ (parseMethodDescriptor y.desc).map (fun d => d.parameters.length) = some na) (hR : rm'.frames + 1 ≤ rm.frames ∧ 8 + (maxL + 11) + rm'.locals ≤ rm.locals)
    (hcl : classes[ci]? = some (C, T, N)) (q0 : Nat) (hrc : w[q0]? = some (b, .inr (ci, fs)))
    (isC : List Nat) (ms : List Bool) (hC : isC.map (fun i => w[i]?) = w0.map some) (hC' : isC.map (fun i => w'[i]?) = w1.map some) (hnC : va_nd isC = true) (hfst : w'.map Prod.fst = w.map Prod.fst) (hpk : pk_ ms w = pk_ ms w') (hml : ms.length = w.length) (hmk : ms = (List.range ms.length).map (fun i => isC.contains i))
    (hna : As.length = na) (hst : st = As.reverse ++ .ref b :: rest) (hs' : v.toList ++ rest = st') (hcap : k ≤ rm.cells ∧ n ≤ rm.slots) (hroom : (rest.map fun v => v.category).sum ≤ 8) (hd : decode cc pc = .ok (.invokevirtual index, 3))
    (kk : gg B nL k n (pc + 3) lv st' w') : gg B nL k n pc lv st w := by
  intro H locs ls hP hD hS hl
  have hK := K.2.2.2.2.2.2.1
  have hPc := hP.sub (ws' := w0) isC (nd_pick hC)
  have hDc := hD.sub (ws' := w0) isC hnC hC
  refine gg_back2 K H locs ls hP hD hS hl isC ms hC hC' hfst hpk hml hmk hz ?_ (by rw [hs']; exact kk)
  have hrm : bu_R B = rm := K.2.2.2.2.2.2.2
  exact va_runV (As := As) (rest := rest) ⟨K.1, K.2.1, K.2.2.1, K.2.2.2.1, K.2.2.2.2.1⟩ (hM H.size) (cwV na K.2.2.2.2.1 (good_of (ws := [.methodLink own index y, .instanceMethod y, .selects C y y, .initialized C]) h4 (by intro x hx; simp only [List.mem_cons, List.not_mem_nil, or_false] at hx; rcases hx with rfl | rfl | rfl | rfl <;> assumption)) rfl rfl rfl hd0 (by rw [hrm]; exact hR))
    ⟨ct_blind, va_recv hK hP (ci := ci) (q0 := q0) hcl hrc, fun U hU hW => ⟨rfl, by rw [hU], by rw [hU]; exact hPc, en_K.moved hW.alike hK, hDc.weaken (fun _ _ _ _ => trivial)⟩⟩ rfl hna hl.1 hst (lv_room hroom) hd (by rw [hrm, hz.1, hz.2]; exact hcap)
end GC2
