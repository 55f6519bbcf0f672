section CF2
variable {now : Nat → Int32} {nt nl : Nat} {par oc : Nat → Int32} {own : Nat → Nat → Int32}
theorem arr_cpy {f g : Nat → Int32} {acc xs : List Nat} (hg : arr g acc) (hf : ∀ k, k < xs.length → f k = nI (xs.getD k 0)) : arr (va_cpy f g 0 acc.length xs.length) (acc ++ xs) := by
  intro i hi
  rw [List.length_append] at hi
  rw [List.getD_eq_getElem?_getD]
  by_cases c : i < acc.length
  · rw [pk_cpy_out (Or.inl c), hg i c, List.getD_eq_getElem?_getD, List.getElem?_append_left c]
  · rw [pk_cpy_in (by omega) (by omega), Nat.zero_add, hf (i - acc.length) (by omega), List.getD_eq_getElem?_getD, List.getElem?_append_right (by omega)]
theorem c_fillL (hI : TI now nt nl) (hC : TC now nt par oc own) {t b : Nat} (ht : t < nt) (hb : b < 64) (hbt : ∀ x, b.testBit x = decide (x ∈ ch now t)) (fuel : Nat) :
    ∀ (j : Nat) (law : Nat → Int32), j ≤ nt → arr law ((fl now t j).flatMap (ow now)) → ((fl now t j).flatMap (ow now)).length ≤ 6 * j → nt - j < fuel → ∃ law', F_X4_fill_14L (nI b) (nI nt) own oc fuel (nI j) (nI ((fl now t j).flatMap (ow now)).length) law = some (nI ((fl now t nt).flatMap (ow now)).length, law') ∧ arr law' ((fl now t nt).flatMap (ow now)) := by
  have hnt := hI.1
  induction fuel with
  | zero => intro j law _ _ _ h; exact absurd h (Nat.not_lt_zero _)
  | succ fuel ih =>
    intro j law hj hl hlen hf
    generalize hacc : (fl now t j).flatMap (ow now) = acc at hl hlen ⊢
    have e0 : F_X4_fill_14L (nI b) (nI nt) own oc (fuel + 1) (nI j) (nI acc.length) law = F_X4_fill_14 (F_X4_fill_14L (nI b) (nI nt) own oc fuel) (nI b) (nI j) (nI nt) own oc (nI acc.length) law := rfl
    rw [e0]
    unfold F_X4_fill_14 F_X4_fill_75
    by_cases c : j = nt
    · subst c
      rw [if_pos (nI_le (Nat.le_refl _) (by omega)), hacc]
      exact ⟨law, rfl, hl⟩
    · have hjn : j < nt := by omega
      have e1 := pk_shrN (n := b) (by omega) (nI j &&& 31) j (sh_amt j (by omega))
      have e2 := pk_andN (n := b / 2 ^ j) (Nat.lt_of_le_of_lt (Nat.div_le_self _ _) (by omega)) (m := 1) 1 (by decide)
      have hb1 : b / 2 ^ j % 2 ^ 1 = 1 ↔ j ∈ ch now t := by
        have h := hbt j
        rw [Nat.testBit_eq_decide_div_mod_eq] at h
        simpa using h
      rw [if_neg (nI_ge hjn (by omega)), e1, e2]
      by_cases cm : j ∈ ch now t
      · have h6 := ow_len hI hjn
        have hoc : oc j = nI (ow now j).length := by
          obtain ⟨-, c9, h1, h2, -⟩ := hI.2 j hjn
          rw [(hC j hjn).2.1, h2]
          unfold ow
          rw [List.length_map, List.length_range, gn_of h2 (by omega)]
        have hfs : fl now t (j + 1) = fl now t j ++ [j] := by rw [fl_succ, if_pos cm]
        have hcp : ∀ X : Option (Int32 × (Nat → Int32)), cp_ 0 (nI acc.length) (nI (ow now j).length) 6 36 X = X := by
          intro X
          unfold cp_
          rw [nI_clamp (n := acc.length) (by omega), nI_clamp (n := (ow now j).length) (by omega), if_neg]
          intro h
          rcases h with h | h | h | h | h
          · exact absurd h (by decide)
          · exact nI_pos (by omega) h
          · exact nI_pos (by omega) h
          · have : (0 : Int32).toNatClampNeg = 0 := by decide
            omega
          · omega
        rw [if_pos (by rw [hb1.mpr cm]; rfl), ck_ok rfl (show j < 6 by omega) (by decide), ck_ok rfl (show j < 6 by omega) (by decide), nI_clamp (n := j) (by omega), hoc, hcp, lt_e, ck_ok rfl (show j < 6 by omega) (by decide), lt_e, lt_e, nI_add, nI_1, nI_clamp (n := acc.length) (by omega), nI_clamp (n := (ow now j).length) (by omega)]
        have hflat : (fl now t (j + 1)).flatMap (ow now) = acc ++ ow now j := by rw [hfs, List.flatMap_append, hacc]; simp
        have := ih (j + 1) (va_cpy (own j) law 0 acc.length (ow now j).length) hjn (by rw [hflat]; exact arr_cpy hl (fun k hk => (hC j hjn).2.2 k hk)) (by rw [hflat, List.length_append]; omega) (by omega)
        rw [hflat, List.length_append] at this
        exact this
      · have hfs : fl now t (j + 1) = fl now t j := by rw [fl_succ, if_neg cm, List.append_nil]
        have hn1 : ¬ nI (b / 2 ^ j % 2 ^ 1) = 1 := fun h => cm (hb1.mp ((e1_ (Nat.lt_trans (Nat.mod_lt _ (by decide)) (by decide))).mp h))
        rw [if_neg hn1, lt_e, nI_1]
        have := ih (j + 1) law hjn (by rw [hfs, hacc]; exact hl) (by rw [hfs, hacc]; omega) (by omega)
        rw [hfs, hacc] at this
        exact this
theorem c_fill (hI : TI now nt nl) (hC : TC now nt par oc own) {t : Nat} (ht : t < nt) (c0 : Int32) (law : Nat → Int32) : ∃ law', F_X4_fill (nI t) (nI nt) own oc par c0 law = some (nI (rows now t).length, law') ∧ arr law' (rows now t) := by
  obtain ⟨b, h1, h2, h3⟩ := c_lineOf hI hC ht
  have e : (fl now t nt).flatMap (ow now) = rows now t := by rw [fl_ch hI t ht nt ht]; rfl
  obtain ⟨law', e1, e2⟩ := c_fillL hI hC ht h1 h3 fu_ 0 law (Nat.zero_le _) (fun i hi => absurd hi (Nat.not_lt_zero i)) (Nat.le_refl _) (by have := hI.1; unfold fu_; omega)
  rw [e] at e1 e2
  refine ⟨law', ?_, e2⟩
  unfold F_X4_fill F_X4_fill_0
  rw [lt_e, h2, b1_s]
  exact e1
end CF2
