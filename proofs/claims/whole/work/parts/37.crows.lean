/-- the class's tongues say the same -/
def TC (now : Nat → Int32) (nt : Nat) (par oc : Nat → Int32) (own : Nat → Nat → Int32) : Prop := ∀ t, t < nt → par t = now (256 + t) ∧ oc t = now (264 + t) ∧ ∀ k, k < (ow now t).length → own t k = nI ((ow now t).getD k 0)
section CR
variable {now : Nat → Int32} {nt nl : Nat} {par oc : Nat → Int32} {own : Nat → Nat → Int32}
theorem or_lt64 {b t : Nat} (hb : b < 64) (ht : t < 6) : b ||| 2 ^ t < 64 := by
  have h2 : 2 ^ t < 2 ^ 6 := Nat.pow_lt_pow_right (by decide) ht
  exact Nat.or_lt_two_pow (n := 6) hb h2
theorem c_lineL (hI : TI now nt nl) (hC : TC now nt par oc own) : ∀ (t : Nat), t < nt → ∀ (fuel b i : Nat), b < 64 → i + (ch now t).length ≤ 6 → (ch now t).length < fuel → ∃ b', b' < 64 ∧ F_X4_lineOf_7L par fuel (nI b) (nI t) (nI i) = some (nI b') ∧ ∀ x, b'.testBit x = (b.testBit x || decide (x ∈ ch now t)) := by
  intro t
  induction t using Nat.strongRecOn with
  | ind t ih =>
    intro ht fuel b i hb hi hf
    have hnt := hI.1
    have hpos : 1 ≤ (ch now t).length := by unfold ch chn; simp
    obtain ⟨fuel, rfl⟩ : ∃ g, fuel = g + 1 := ⟨fuel - 1, by omega⟩
    have e0 : F_X4_lineOf_7L par (fuel + 1) (nI b) (nI t) (nI i) = F_X4_lineOf_7 (F_X4_lineOf_7L par fuel) (nI b) (nI t) (nI i) par := rfl
    rw [e0]
    have hne : ¬ nI t = -1 := by
      intro h
      have := nI_pos (n := t) (by omega)
      rw [h] at this
      exact this (by decide)
    have esh : (1 : Int32) <<< (nI t &&& 31) = nI (2 ^ t) := by
      have := pk_shlN (n := 1) (nI t &&& 31) t (sh_amt t (by omega)) (by rw [Nat.one_mul]; exact Nat.pow_lt_pow_right (by decide) (by omega))
      rw [Nat.one_mul] at this
      exact this
    unfold F_X4_lineOf_7
    rw [if_neg (show ¬ (6 : Int32) ≤ nI i from nI_ge (a := i) (b := 6) (by omega) (by decide)), if_neg hne, lt_e, ck_ok rfl (show t < 6 by omega) (by decide), lt_e, lt_e, nI_1, nI_clamp (n := t) (by omega), esh, fa_or, (hC t ht).1]
    have hb2 := or_lt64 hb (show t < 6 by omega)
    rcases (hI.2 t ht).1 with h | ⟨p, hp, h⟩
    · have hct := ch_top hI ht h
      rw [hct] at hf hi ⊢
      obtain ⟨fuel, rfl⟩ : ∃ g, fuel = g + 1 := ⟨fuel - 1, by simp at hf; omega⟩
      refine ⟨b ||| 2 ^ t, hb2, ?_, fun x => ?_⟩
      · show F_X4_lineOf_7 _ (nI (b ||| 2 ^ t)) (now (256 + t)) (nI (i + 1)) par = _
        unfold F_X4_lineOf_7
        rw [h, if_pos rfl, ite_self]
      · rw [fb_bit_set]
        simp
    · have hct := ch_up hI ht hp h
      rw [hct] at hf hi ⊢
      rw [List.length_cons] at hf hi
      rw [h]
      obtain ⟨b', h1, h2, h3⟩ := ih p hp (by omega) fuel (b ||| 2 ^ t) (i + 1) hb2 (by omega) (by omega)
      refine ⟨b', h1, h2, fun x => ?_⟩
      rw [h3 x, fb_bit_set]
      simp [Bool.or_assoc]
theorem c_lineOf (hI : TI now nt nl) (hC : TC now nt par oc own) {t : Nat} (ht : t < nt) : ∃ b, b < 64 ∧ F_X4_lineOf (nI t) par = some (nI b) ∧ ∀ x, b.testBit x = decide (x ∈ ch now t) := by
  have hlen := ch_len hI t ht
  have hnt := hI.1
  obtain ⟨b, h1, h2, h3⟩ := c_lineL hI hC t ht fu_ 0 0 (by decide) (by omega) (by unfold fu_; omega)
  exact ⟨b, h1, h2, fun x => by rw [h3 x]; simp⟩
end CR
