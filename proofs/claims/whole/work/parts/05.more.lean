def go_ (N : Nat) (r : Nat → Nat) : Nat → Option Nat := fun i => if i < N then some (r i) else none
def ur_ {β : Type} (g : Nat → β) (i : Nat) (f : β) : Nat → β := fun a => if a = i then f else g a
def cp_ {β : Type} (sp dp m : Int32) (n0 n1 : Nat) (X : Option β) : Option β := if sp < 0 ∨ dp < 0 ∨ m < 0 ∨ n0 < sp.toNatClampNeg + m.toNatClampNeg ∨ n1 < dp.toNatClampNeg + m.toNatClampNeg then none else X
def zf_ {β : Type} (f : Nat → Int32) (n : Nat) (X : Option β) : Option β := if ∀ i, i < n → f i = 0 ∨ f i = 1 then X else none
def mi_ (x y : Int32) : Int32 := if y < x then y else x
theorem cp_some {β : Type} {sp dp m : Int32} {n0 n1 : Nat} {X : Option β} {o : β} (h : cp_ sp dp m n0 n1 X = some o) : ¬ sp < 0 ∧ ¬ dp < 0 ∧ ¬ m < 0 ∧ sp.toNatClampNeg + m.toNatClampNeg ≤ n0 ∧ dp.toNatClampNeg + m.toNatClampNeg ≤ n1 ∧ X = some o := by
  unfold cp_ at h
  split at h
  · cases h
  · rename_i c
    simp only [not_or, Nat.not_lt] at c
    exact ⟨c.1, c.2.1, c.2.2.1, c.2.2.2.1, c.2.2.2.2, h⟩
theorem zf_some {β : Type} {f : Nat → Int32} {n : Nat} {X : Option β} {o : β} (h : zf_ f n X = some o) : (∀ i, i < n → f i = 0 ∨ f i = 1) ∧ X = some o := by
  unfold zf_ at h
  split at h
  · rename_i c
    exact ⟨c, h⟩
  · cases h
theorem lt6_ {P : Nat → Prop} (h0 : P 0) (h1 : P 1) (h2 : P 2) (h3 : P 3) (h4 : P 4) (h5 : P 5) : ∀ i, i < 6 → P i := fun i h => match i, h with
  | 0, _ => h0
  | 1, _ => h1
  | 2, _ => h2
  | 3, _ => h3
  | 4, _ => h4
  | 5, _ => h5
theorem lt8_ {P : Nat → Prop} (h0 : P 0) (h1 : P 1) (h2 : P 2) (h3 : P 3) (h4 : P 4) (h5 : P 5) (h6 : P 6) (h7 : P 7) : ∀ i, i < 8 → P i := fun i h => match i, h with
  | 0, _ => h0
  | 1, _ => h1
  | 2, _ => h2
  | 3, _ => h3
  | 4, _ => h4
  | 5, _ => h5
  | 6, _ => h6
  | 7, _ => h7
section GM
variable {B : bu_T} {cc : ByteArray} {own : String} {rm : Room} {nL k n pc : Nat} {lv lv' : List (Nat × Value)} {st : List Value} {w : va_W}
variable {α : Type} {X Y : Option α} {o : α}
theorem gg_aaldI (K : cx B cc own rm nL) (q0 : Nat) {a N : Nat} {r : Nat → Nat} {i : Int32} (ha : w[q0]? = some (a, .inl (en_II (bu_E B), N, .inr (.inr (.inr (.inr (go_ N r))))))) (hd : decode cc pc = .ok (.aaload, 1)) (hF : ck_ i N X = some o) (kk : i.toNatClampNeg < N → X = some o → gg B nL k n (pc + 1) lv (.ref (r i.toNatClampNeg) :: st) w) : gg B nL k n pc lv (.int i :: .ref a :: st) w := fun H locs ls hP hD hS hl => by
  have hin := (ck_some hF).1
  have hlt : i.toNatClampNeg < N := Nat.not_le.mp fun q => hin (Or.inr q)
  have e : va_rf (go_ N r i.toNatClampNeg) = .ref (r i.toNatClampNeg) := by unfold go_; rw [if_pos hlt]; rfl
  exact W.aald (v := .ref (r i.toNatClampNeg)) (ty := .array .int) K.1 K.2.1 (hP q0 _ ha) ((K.2.2.2.2.2.2.1.2 3 _ rfl).1 N (fun j => va_rf (go_ N r j))) rfl (fun q => by cases q) (by show ¬ (i < 0 ∨ (arrV _ _ _).slots.size ≤ _); rw [arrV_size]; exact hin) (by show (arrV _ _ _).slots[_]? = _; rw [arrV_read _ _ hlt]; exact congrArg some e) rfl rfl hd (kk hlt (ck_some hF).2 H locs ls hP hD hS hl)
theorem gg_aaldJ (K : cx B cc own rm nL) (q0 : Nat) {a N : Nat} {r : Nat → Nat} {i : Int32} (ha : w[q0]? = some (a, .inl (en_JJ (bu_E B), N, .inr (.inr (.inr (.inr (go_ N r))))))) (hd : decode cc pc = .ok (.aaload, 1)) (hF : ck_ i N X = some o) (kk : i.toNatClampNeg < N → X = some o → gg B nL k n (pc + 1) lv (.ref (r i.toNatClampNeg) :: st) w) : gg B nL k n pc lv (.int i :: .ref a :: st) w := fun H locs ls hP hD hS hl => by
  have hin := (ck_some hF).1
  have hlt : i.toNatClampNeg < N := Nat.not_le.mp fun q => hin (Or.inr q)
  have e : va_rf (go_ N r i.toNatClampNeg) = .ref (r i.toNatClampNeg) := by unfold go_; rw [if_pos hlt]; rfl
  exact W.aald (v := .ref (r i.toNatClampNeg)) (ty := .array .long) K.1 K.2.1 (hP q0 _ ha) ((K.2.2.2.2.2.2.1.2 4 _ rfl).1 N (fun j => va_rf (go_ N r j))) rfl (fun q => by cases q) (by show ¬ (i < 0 ∨ (arrV _ _ _).slots.size ≤ _); rw [arrV_size]; exact hin) (by show (arrV _ _ _).slots[_]? = _; rw [arrV_read _ _ hlt]; exact congrArg some e) rfl rfl hd (kk hlt (ck_some hF).2 H locs ls hP hD hS hl)
theorem gg_rild (K : cx B cc own rm nL) (q0 : Nat) {N M i : Nat} {r : Nat → Nat} {g : Nat → Nat → Int32} {j : Int32} (hrow : ∀ i, i < N → w[q0 + i]? = some (r i, .inl (en_I (bu_E B), M, .inl (g i)))) (hi : i < N) (hd : decode cc pc = .ok (.iaload, 1)) (hF : ck_ j M X = some o) (kk : X = some o → gg B nL k n (pc + 1) lv (.int (g i j.toNatClampNeg) :: st) w) : gg B nL k n pc lv (.int j :: .ref (r i) :: st) w := fun H locs ls hP hD hS hl => va_iald K.1 K.2.1 K.2.2.2.2.2.2.1 hP (q0 + i) 0 (hrow i hi) rfl (ck_some hF).1 hd (kk (ck_some hF).2 H locs ls hP hD hS hl)
theorem gg_rist (K : cx B cc own rm nL) (q0 : Nat) {N M i : Nat} {r : Nat → Nat} {g : Nat → Nat → Int32} {j : Int32} {x : Int32} {Z : (Nat → Nat → Int32) → Option α} {wf : (Nat → Nat → Int32) → va_W} (hrow : ∀ i, i < N → w[q0 + i]? = some (r i, .inl (en_I (bu_E B), M, .inl (g i)))) (hi : i < N) (hd : decode cc pc = .ok (.iastore, 1)) (hF : ck_ j M (lt_ (ur_ g i (upd (g i) j.toNatClampNeg x)) Z) = some o) (hw : ∀ i, i < N → ∀ f, w.set (q0 + i) (r i, .inl (en_I (bu_E B), M, .inl (f))) = wf (ur_ g i f)) (kk : ∀ h, h = ur_ g i (upd (g i) j.toNatClampNeg x) → Z h = some o → gg B nL k n (pc + 1) lv st (wf h)) : gg B nL k n pc lv (.int x :: .int j :: .ref (r i) :: st) w := fun H locs ls hP hD hS hl => va_iast K.1 K.2.1 K.2.2.2.2.2.2.1 hP hD hS (q0 + i) 0 (hrow i hi) rfl (ck_some hF).1 hd (fun H1 locs1 hP1 hD1 hS1 => kk _ rfl (ck_some hF).2 H1 locs1 ls (by rw [← hw i hi]; exact hP1) (by rw [← hw i hi]; exact hD1) hS1 hl)
theorem gg_cpyi (K : cx B cc own rm nL) (q0 q1 t : Nat) {a0 a n0 n1 index : Nat} {cA : ClassId} {ty : FieldType} {f g : Nat → Int32} {sp dp m : Int32} {τ : Type} (d : (Nat → Int32) → τ) {Z : τ → Option α} {wf : τ → va_W} (ha0 : w[q0]? = some (a0, .inl (cA, n0, .inl (f)))) (ha1 : w[q1]? = some (a, .inl (cA, n1, .inl (g)))) (ht : (en_ts (bu_E B))[t]? = some (cA, ty)) (hprim : refKind ty = false) (hfit : ∀ i, i < n0 → fits ty (.int (f i)) = true) (h1 : Cond.methodLink own index arraycopyName ∈ lw_ws) (h2 : Cond.native arraycopyName ∈ lw_ws) (h3 : Cond.static arraycopyName ∈ lw_ws) (h4 : Cond.initialized "java/lang/System" ∈ lw_ws) (hframes : 1 ≤ rm.frames) (hlocals : (st.map fun v => v.category).sum + (nativeFrameWords "java/lang/System" "arraycopy" 5 + 11) ≤ rm.locals) (hd : decode cc pc = .ok (.invokestatic index, 3)) (hF : cp_ sp dp m n0 n1 (lt_ (d (va_cpy f g sp.toNatClampNeg dp.toNatClampNeg m.toNatClampNeg)) Z) = some o) (hw : ∀ h, w.set q1 (a, .inl (cA, n1, .inl (h))) = wf (d h)) (kk : ∀ y, y = d (va_cpy f g sp.toNatClampNeg dp.toNatClampNeg m.toNatClampNeg) → Z y = some o → gg B nL k n (pc + 3) lv st (wf y)) : gg B nL k n pc lv (.int m :: .int dp :: .ref a :: .int sp :: .ref a0 :: st) w := fun H locs ls hP hD hS hl => by
  obtain ⟨c1, c2, c3, c4, c5, hF2⟩ := cp_some hF
  have hrm : bu_R B = rm := K.2.2.2.2.2.2.2
  exact va_copyi K.1 K.2.1 (K.2.2.1.trans hl.1.symm) K.2.2.2.1 (K.2.2.2.2.1 _ h1) (K.2.2.2.2.1 _ h2) (K.2.2.2.2.1 _ h3) (K.2.2.2.2.1 _ h4) K.2.2.2.2.2.2.1 hP hD hS q0 q1 t t ha0 ha1 ht ht hprim c1 c2 c3 c4 c5 (fun i hi => hfit _ (by omega)) (by rw [hrm]; exact hframes) (by rw [hrm]; exact hlocals) hd (fun H1 locs1 hP1 hD1 hS1 => kk _ rfl hF2 H1 locs1 ls (by rw [← hw]; exact hP1) (by rw [← hw]; exact hD1) hS1 hl)
theorem gg_rlld (K : cx B cc own rm nL) (q0 : Nat) {N M i : Nat} {r : Nat → Nat} {g : Nat → Nat → Int64} {j : Int32} (hrow : ∀ i, i < N → w[q0 + i]? = some (r i, .inl (en_J (bu_E B), M, .inr (.inl (g i))))) (hi : i < N) (hd : decode cc pc = .ok (.laload, 1)) (hF : ck_ j M X = some o) (kk : X = some o → gg B nL k n (pc + 1) lv (.long (g i j.toNatClampNeg) :: st) w) : gg B nL k n pc lv (.int j :: .ref (r i) :: st) w := fun H locs ls hP hD hS hl => va_lald K.1 K.2.1 K.2.2.2.2.2.2.1 hP (q0 + i) 1 (hrow i hi) rfl (ck_some hF).1 hd (kk (ck_some hF).2 H locs ls hP hD hS hl)
theorem gg_rlst (K : cx B cc own rm nL) (q0 : Nat) {N M i : Nat} {r : Nat → Nat} {g : Nat → Nat → Int64} {j : Int32} {x : Int64} {Z : (Nat → Nat → Int64) → Option α} {wf : (Nat → Nat → Int64) → va_W} (hrow : ∀ i, i < N → w[q0 + i]? = some (r i, .inl (en_J (bu_E B), M, .inr (.inl (g i))))) (hi : i < N) (hd : decode cc pc = .ok (.lastore, 1)) (hF : ck_ j M (lt_ (ur_ g i (vp_updL (g i) j.toNatClampNeg x)) Z) = some o) (hw : ∀ i, i < N → ∀ f, w.set (q0 + i) (r i, .inl (en_J (bu_E B), M, .inr (.inl (f)))) = wf (ur_ g i f)) (kk : ∀ h, h = ur_ g i (vp_updL (g i) j.toNatClampNeg x) → Z h = some o → gg B nL k n (pc + 1) lv st (wf h)) : gg B nL k n pc lv (.long x :: .int j :: .ref (r i) :: st) w := fun H locs ls hP hD hS hl => va_last K.1 K.2.1 K.2.2.2.2.2.2.1 hP hD hS (q0 + i) 1 (hrow i hi) rfl (ck_some hF).1 hd (fun H1 locs1 hP1 hD1 hS1 => kk _ rfl (ck_some hF).2 H1 locs1 ls (by rw [← hw i hi]; exact hP1) (by rw [← hw i hi]; exact hD1) hS1 hl)
theorem gg_cpyl (K : cx B cc own rm nL) (q0 q1 t : Nat) {a0 a n0 n1 index : Nat} {cA : ClassId} {ty : FieldType} {f g : Nat → Int64} {sp dp m : Int32} {τ : Type} (d : (Nat → Int64) → τ) {Z : τ → Option α} {wf : τ → va_W} (ha0 : w[q0]? = some (a0, .inl (cA, n0, .inr (.inl (f))))) (ha1 : w[q1]? = some (a, .inl (cA, n1, .inr (.inl (g))))) (ht : (en_ts (bu_E B))[t]? = some (cA, ty)) (hprim : refKind ty = false) (hfit : ∀ i, i < n0 → fits ty (.long (f i)) = true) (h1 : Cond.methodLink own index arraycopyName ∈ lw_ws) (h2 : Cond.native arraycopyName ∈ lw_ws) (h3 : Cond.static arraycopyName ∈ lw_ws) (h4 : Cond.initialized "java/lang/System" ∈ lw_ws) (hframes : 1 ≤ rm.frames) (hlocals : (st.map fun v => v.category).sum + (nativeFrameWords "java/lang/System" "arraycopy" 5 + 11) ≤ rm.locals) (hd : decode cc pc = .ok (.invokestatic index, 3)) (hF : cp_ sp dp m n0 n1 (lt_ (d (va_cpy f g sp.toNatClampNeg dp.toNatClampNeg m.toNatClampNeg)) Z) = some o) (hw : ∀ h, w.set q1 (a, .inl (cA, n1, .inr (.inl (h)))) = wf (d h)) (kk : ∀ y, y = d (va_cpy f g sp.toNatClampNeg dp.toNatClampNeg m.toNatClampNeg) → Z y = some o → gg B nL k n (pc + 3) lv st (wf y)) : gg B nL k n pc lv (.int m :: .int dp :: .ref a :: .int sp :: .ref a0 :: st) w := fun H locs ls hP hD hS hl => by
  obtain ⟨c1, c2, c3, c4, c5, hF2⟩ := cp_some hF
  have hrm : bu_R B = rm := K.2.2.2.2.2.2.2
  exact va_copyl K.1 K.2.1 (K.2.2.1.trans hl.1.symm) K.2.2.2.1 (K.2.2.2.2.1 _ h1) (K.2.2.2.2.1 _ h2) (K.2.2.2.2.1 _ h3) (K.2.2.2.2.1 _ h4) K.2.2.2.2.2.2.1 hP hD hS q0 q1 t t ha0 ha1 ht ht hprim c1 c2 c3 c4 c5 (fun i hi => hfit _ (by omega)) (by rw [hrm]; exact hframes) (by rw [hrm]; exact hlocals) hd (fun H1 locs1 hP1 hD1 hS1 => kk _ rfl hF2 H1 locs1 ls (by rw [← hw]; exact hP1) (by rw [← hw]; exact hD1) hS1 hl)
theorem gg_min (K : cx B cc own rm nL) {index : Nat} {x y : Int32} (h1 : Cond.methodLink own index Lib.Math.min.name ∈ lw_ws) (h2 : Cond.static Lib.Math.min.name ∈ lw_ws) (h3 : Cond.initialized "java/lang/Math" ∈ lw_ws) (h4 : Cond.code Lib.Math.min.name Lib.Math.min.code 2 (some .int) ∈ lw_ws) (hframes : 1 ≤ rm.frames) (hlocals : (st.map fun v => v.category).sum + 13 ≤ rm.locals) (hc : k ≤ rm.cells) (hs : n ≤ rm.slots) (hd : decode cc pc = .ok (.invokestatic index, 3)) (kk : gg B nL k n (pc + 3) lv (.int (mi_ x y) :: st) w) : gg B nL k n pc lv (.int y :: .int x :: st) w := fun H locs ls hP hD hS hl => by
  have hrm : bu_R B = rm := K.2.2.2.2.2.2.2
  exact va_mmin K.1 K.2.1 (K.2.2.1.trans hl.1.symm) K.2.2.2.1 (K.2.2.2.2.1 _ h1) (K.2.2.2.2.1 _ h2) (K.2.2.2.2.1 _ h3) (K.2.2.2.2.1 _ h4) (by rw [hrm]; exact hframes) (by rw [hrm]; exact hlocals) (by rw [hrm]; exact hc) (by rw [hrm]; exact hs) hd (kk H locs ls hP hD hS hl)
end GM
theorem te_bc : plainFor yJ6_bitCount_0f7a4 = true := by decide +kernel
theorem te_fi : plainFor yJ7_fill_d0a16 = true := by decide +kernel
theorem te_mi : yJ9_min_7cf53 = Lib.Math.min.name ∧ cJ9_min_7cf53 = Lib.Math.min.code := by decide +kernel
theorem te_nm : plainName RX0 = true ∧ plainName RX10 = true ∧ plainName RX11 = true := by decide +kernel
