/-! loses: the class's set of words -/
def hsv (v : Int64) : Nat := v.toBitVec.toNat / 2 ^ 51
theorem hsv_lt (v : Int64) : hsv v < 8192 := by
  unfold hsv
  have := v.toBitVec.isLt
  omega
theorem hsv_e (v : Int64) : Int64.toInt32 (ul_ v 51) = nI (hsv v) := by
  have hl := v.toBitVec.isLt
  have e1 : v = lN v.toBitVec.toNat := wb_inj (by rw [wb_tb]; simp)
  have e2 := wb_shr (n := v.toBitVec.toNat) (k := 51) hl (by decide)
  rw [← e1] at e2
  have e3 : ul_ v 51 = lN (v.toBitVec.toNat / 2 ^ 51) := e2
  rw [e3, lN_i]
  rfl
def hs (w : Int64) : Nat := hsv (w * (-7046029254386353131 : Int64))
theorem hs_lt (w : Int64) : hs w < 8192 := hsv_lt _
theorem hs_e (w : Int64) : Int64.toInt32 (ul_ (w * (-7046029254386353131 : Int64)) 51) = nI (hs w) := hsv_e _
theorem at_e {h i : Nat} (h1 : h < 8192) (h2 : i < 8192) : (nI h + nI i) &&& 8191 = nI ((h + i) % 8192) := by
  rw [nI_add]
  exact pk_andN (n := h + i) (by omega) (m := 8191) 13 (by decide)
theorem isn_found {w : Int64} {h : Nat} (hh : h < 8192) (slot : Nat → Int64) {k : Nat} (hk : k < 8192) (h1 : slot ((h + k) % 8192) = w) (fuel : Nat) : ∀ i, i ≤ k → k - i < fuel → (∀ m, i ≤ m → m < k → slot ((h + m) % 8192) ≠ 0) → F_X8_isNew_13L w (nI h) fuel (nI i) slot = some (0, slot) := by
  induction fuel with
  | zero => intro i _ h; exact absurd h (Nat.not_lt_zero _)
  | succ fuel ih =>
    intro i hi hf hm
    have e0 : F_X8_isNew_13L w (nI h) (fuel + 1) (nI i) slot = F_X8_isNew_13 (F_X8_isNew_13L w (nI h) fuel) w (nI h) (nI i) slot := rfl
    have hlt : (h + i) % 8192 < 8192 := Nat.mod_lt _ (by decide)
    rw [e0]
    unfold F_X8_isNew_13
    rw [if_neg (show ¬ (8192 : Int32) ≤ nI i from nI_ge (a := i) (b := 8192) (by omega) (by decide)), lt_e, at_e hh (by omega), ck_ok rfl hlt (by decide), nI_clamp (n := (h + i) % 8192) (by omega)]
    by_cases c : slot ((h + i) % 8192) = w
    · rw [if_pos c]
    · have hik : i ≠ k := fun q => c (by rw [q]; exact h1)
      rw [if_neg c, ck_ok rfl hlt (by decide), if_neg (hm i (Nat.le_refl _) (by omega)), lt_e, nI_1]
      exact ih (i + 1) (by omega) (by omega) (fun m h3 h4 => hm m (by omega) h4)
theorem isn_free {w : Int64} {h : Nat} (hh : h < 8192) (slot : Nat → Int64) {k : Nat} (hk : k < 8192) (hw : w ≠ 0) (h1 : slot ((h + k) % 8192) = 0) (fuel : Nat) : ∀ i, i ≤ k → k - i < fuel → (∀ m, i ≤ m → m < k → slot ((h + m) % 8192) ≠ 0 ∧ slot ((h + m) % 8192) ≠ w) → F_X8_isNew_13L w (nI h) fuel (nI i) slot = some (1, vp_updL slot ((h + k) % 8192) w) := by
  induction fuel with
  | zero => intro i _ h; exact absurd h (Nat.not_lt_zero _)
  | succ fuel ih =>
    intro i hi hf hm
    have e0 : F_X8_isNew_13L w (nI h) (fuel + 1) (nI i) slot = F_X8_isNew_13 (F_X8_isNew_13L w (nI h) fuel) w (nI h) (nI i) slot := rfl
    have hlt : (h + i) % 8192 < 8192 := Nat.mod_lt _ (by decide)
    rw [e0]
    unfold F_X8_isNew_13
    rw [if_neg (show ¬ (8192 : Int32) ≤ nI i from nI_ge (a := i) (b := 8192) (by omega) (by decide)), lt_e, at_e hh (by omega), ck_ok rfl hlt (by decide), nI_clamp (n := (h + i) % 8192) (by omega)]
    by_cases c : i = k
    · subst c
      rw [if_neg (by rw [h1]; exact fun q => hw q.symm), ck_ok rfl hlt (by decide), if_pos h1, ck_ok rfl hlt (by decide), lt_e]
    · have := hm i (Nat.le_refl _) (by omega)
      rw [if_neg this.2, ck_ok rfl hlt (by decide), if_neg this.1, lt_e, nI_1]
      exact ih (i + 1) (by omega) (by omega) (fun m h3 h4 => hm m (by omega) h4)
def HS (slot : Nat → Int64) (G : Nat → Option (List Nat)) (j : Nat) : Prop :=
  (∀ a, a < 8192 → slot a = 0 ∨ ∃ i x, i < j ∧ G i = some x ∧ slot a = wl x) ∧
  (∀ i x, i < j → G i = some x → ∃ k, k < 8192 ∧ slot ((hs (wl x) + k) % 8192) = wl x ∧ ∀ m, m < k → slot ((hs (wl x) + m) % 8192) ≠ 0) ∧
  fb_ct (fun a => !decide (slot a = 0)) 8192 ≤ j
theorem HS_none {slot : Nat → Int64} {G : Nat → Option (List Nat)} {j : Nat} (h : HS slot G j) (hj : G j = none) : HS slot G (j + 1) := by
  obtain ⟨h1, h2, h3⟩ := h
  refine ⟨fun a ha => ?_, fun i x hi hx => ?_, by omega⟩
  · rcases h1 a ha with q | ⟨i, x, q1, q2, q3⟩
    · exact Or.inl q
    · exact Or.inr ⟨i, x, by omega, q2, q3⟩
  · by_cases c : i = j
    · subst c; rw [hj] at hx; cases hx
    · exact h2 i x (by omega) hx
theorem HS_step {slot : Nat → Int64} {G : Nat → Option (List Nat)} {j : Nat} (hG : ∀ i, i ≤ j → okW (G i)) (h : HS slot G j) (hj8 : j < 8192) {x : List Nat} (hx : G j = some x) :
    ∃ y slot', F_X8_isNew (wl x) slot = some (y, slot') ∧ HS slot' G (j + 1) ∧ ((y = 0 ∧ ∃ i, i < j ∧ G i = some x) ∨ (y = 1 ∧ ∀ i, i < j → G i ≠ some x)) := by
  obtain ⟨h1, h2, h3⟩ := h
  have hxo := hG j (Nat.le_refl _) x hx
  have hw0 : wl x ≠ 0 := wl_ne0 hxo.1 (by omega)
  have hh := hs_lt (wl x)
  have hF : F_X8_isNew (wl x) slot = F_X8_isNew_13L (wl x) (nI (hs (wl x))) fu_ (nI 0) slot := by
    unfold F_X8_isNew F_X8_isNew_0
    rw [lt_e, hs_e]
    rfl
  by_cases hin : ∃ i, i < j ∧ G i = some x
  · obtain ⟨i, hi, hGi⟩ := hin
    obtain ⟨k, k1, k2, k3⟩ := h2 i x hi hGi
    refine ⟨0, slot, ?_, ⟨fun a ha => ?_, fun i' x' hi' hx' => ?_, by omega⟩, Or.inl ⟨rfl, i, hi, hGi⟩⟩
    · rw [hF]
      exact isn_found hh slot k1 k2 fu_ 0 (Nat.zero_le _) (by unfold fu_; omega) (fun m _ h5 => k3 m h5)
    · rcases h1 a ha with q | ⟨i, x, q1, q2, q3⟩
      · exact Or.inl q
      · exact Or.inr ⟨i, x, by omega, q2, q3⟩
    · by_cases c : i' = j
      · subst c
        rw [hx] at hx'
        cases hx'
        exact h2 i x hi hGi
      · exact h2 i' x' (by omega) hx'
  · have hno : ∀ i, i < j → G i ≠ some x := fun i hi q => hin ⟨i, hi, q⟩
    have hnw : ∀ a, a < 8192 → slot a ≠ wl x := fun a ha q => by
      rcases h1 a ha with q2 | ⟨i, x', q1, q2, q3⟩
      · rw [q2] at q; exact hw0 q.symm
      · rw [q3] at q
        have hxo' := hG i (by omega) x' q2
        have := (wl_inj hxo'.1 hxo.1 (by omega) (by omega)).mp q
        rw [this] at q2
        exact hno i q1 q2
    have hz : ∃ k, k < 8192 ∧ slot ((hs (wl x) + k) % 8192) = 0 := by
      have hna : ¬ ∀ k, k < 8192 → (fun a => !decide (slot a = 0)) k = true := fun q => by
        have := fb_ct_all.mpr q
        omega
      obtain ⟨a, ha⟩ := Classical.not_forall.mp hna
      have ha8 : a < 8192 := Classical.byContradiction fun q => ha (fun q2 => absurd q2 q)
      have hs0 : slot a = 0 := by
        apply Classical.byContradiction
        intro q
        apply ha
        intro _
        simp [q]
      refine ⟨(a + 8192 - hs (wl x)) % 8192, Nat.mod_lt _ (by decide), ?_⟩
      have : (hs (wl x) + (a + 8192 - hs (wl x)) % 8192) % 8192 = a := by omega
      rw [this]
      exact hs0
    obtain ⟨k, ⟨k1, k2⟩, k3⟩ := pk_least (fun k => k < 8192 ∧ slot ((hs (wl x) + k) % 8192) = 0) hz
    have hpos : (hs (wl x) + k) % 8192 < 8192 := Nat.mod_lt _ (by decide)
    have hbef : ∀ m, m < k → slot ((hs (wl x) + m) % 8192) ≠ 0 := fun m hm q => k3 m hm ⟨by omega, q⟩
    refine ⟨1, vp_updL slot ((hs (wl x) + k) % 8192) (wl x), ?_, ⟨fun a ha => ?_, fun i' x' hi' hx' => ?_, ?_⟩, Or.inr ⟨rfl, hno⟩⟩
    · rw [hF]
      exact isn_free hh slot k1 hw0 k2 fu_ 0 (Nat.zero_le _) (by unfold fu_; omega) (fun m _ h5 => ⟨hbef m h5, hnw _ (Nat.mod_lt _ (by decide))⟩)
    · by_cases c : a = (hs (wl x) + k) % 8192
      · rw [c, pk_uLs]; exact Or.inr ⟨j, x, by omega, hx, rfl⟩
      · rw [pk_uLn c]
        rcases h1 a ha with q | ⟨i, x, q1, q2, q3⟩
        · exact Or.inl q
        · exact Or.inr ⟨i, x, by omega, q2, q3⟩
    · by_cases c : i' = j
      · subst c
        rw [hx] at hx'
        cases hx'
        refine ⟨k, k1, pk_uLs, fun m hm => ?_⟩
        rw [pk_uLn (fun q => hbef m hm (by rw [q]; exact k2))]
        exact hbef m hm
      · obtain ⟨l, l1, l2, l3⟩ := h2 i' x' (by omega) hx'
        have hxo' := hG i' (by omega) x' hx'
        have hw0' : wl x' ≠ 0 := wl_ne0 hxo'.1 (by omega)
        refine ⟨l, l1, ?_, fun m hm => ?_⟩
        · rw [pk_uLn (fun q => hw0' (by rw [← l2, q]; exact k2))]; exact l2
        · rw [pk_uLn (fun q => l3 m hm (by rw [q]; exact k2))]; exact l3 m hm
    · have e : (fun a => !decide (vp_updL slot ((hs (wl x) + k) % 8192) (wl x) a = 0)) = (fun a => if a = (hs (wl x) + k) % 8192 then true else !decide (slot a = 0)) := by
        funext a
        by_cases c : a = (hs (wl x) + k) % 8192
        · rw [if_pos c, c, pk_uLs]; simp [hw0]
        · rw [if_neg c, pk_uLn c]
      rw [e]
      have := fb_ct_upd (fun a => !decide (slot a = 0)) true (i := (hs (wl x) + k) % 8192) (n := 8192) hpos
      have hp0 : (!decide (slot ((hs (wl x) + k) % 8192) = 0)) = false := by simp [k2]
      rw [hp0] at this
      simp only [if_true] at this
      have h0 : (if false = true then 1 else 0 : Nat) = 0 := rfl
      rw [h0] at this
      omega
theorem c_fillL8 (fuel : Nat) : ∀ (i : Nat) (slot : Nat → Int64), i ≤ 8192 → 8192 - i < fuel → (∀ k, k < i → slot k = 0) → ∃ slot', F_J7_fill_d0a16_6L 0 8192 fuel (nI i) slot = some slot' ∧ ∀ k, k < 8192 → slot' k = 0 := by
  induction fuel with
  | zero => intro i f _ h; exact absurd h (Nat.not_lt_zero _)
  | succ fuel ih =>
    intro i f hi hf h1
    have e0 : F_J7_fill_d0a16_6L 0 8192 (fuel + 1) (nI i) f = F_J7_fill_d0a16_6 (F_J7_fill_d0a16_6L 0 8192 fuel) 0 (nI i) 8192 f := rfl
    rw [e0]
    unfold F_J7_fill_d0a16_6
    by_cases c : i = 8192
    · subst c
      rw [if_pos (show (8192 : Int32) ≤ nI 8192 from nI_le (Nat.le_refl 8192) (by omega))]
      exact ⟨f, rfl, h1⟩
    · rw [if_neg (show ¬ (8192 : Int32) ≤ nI i from nI_ge (a := i) (b := 8192) (by omega) (by decide)), ck_ok rfl (show i < 8192 by omega) (by decide), lt_e, lt_e, nI_1, nI_clamp (n := i) (by omega)]
      refine ih (i + 1) _ (by omega) (by omega) (fun t ht => ?_)
      by_cases c2 : t = i
      · subst c2; exact pk_uLs
      · rw [pk_uLn c2]; exact h1 t (by omega)
theorem c_clear (slot : Nat → Int64) (G : Nat → Option (List Nat)) : ∃ slot', F_X8_clear slot = some slot' ∧ HS slot' G 0 := by
  obtain ⟨s', h1, h2⟩ := c_fillL8 fu_ 0 slot (Nat.zero_le _) (by unfold fu_; omega) (fun k h => absurd h (Nat.not_lt_zero k))
  refine ⟨s', ?_, fun a ha => Or.inl (h2 a ha), fun i x hi => absurd hi (Nat.not_lt_zero _), ?_⟩
  · unfold F_X8_clear F_X8_clear_0 F_J7_fill_d0a16 F_J7_fill_d0a16_0
    exact (show bn1_ (F_J7_fill_d0a16_6L 0 8192 fu_ (nI 0) slot) _ = _ by rw [h1]; rfl)
  · have : fb_ct (fun a => !decide (s' a = 0)) 8192 = 0 := fb_ct_zero.mpr (fun k hk => by simp [h2 k hk])
    omega
