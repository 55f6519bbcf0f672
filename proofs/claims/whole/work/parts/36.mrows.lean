theorem arr_snoc {f : Nat → Int32} {o : List Nat} {s : Nat} (h : arr f o) : arr (upd f o.length (nI s)) (o ++ [s]) := by
  have := arr_push (f := f) (o := o.reverse) (s := s) (by rw [List.reverse_reverse]; exact h)
  rw [List.length_reverse, List.reverse_cons, List.reverse_reverse] at this
  exact this
section FL
variable {now : Nat → Int32} {nt nl : Nat}
theorem f_line (hI : TI now nt nl) (row : Nat → Int32) (many : Int32) : ∀ (t : Nat), t < nt → ∀ (fuel : Nat) (pre : List Nat) (line : Nat → Int32), arr line pre → pre.length + (ch now t).length ≤ 6 → (ch now t).length < fuel → ∃ line', F_X11_findLaws_4L now row fuel (nI pre.length) (nI t) many line = F_X11_findLaws_42L line' now fu_ (nI (pre ++ ch now t).length - 1) 0 row ∧ arr line' (pre ++ ch now t) := by
  intro t
  induction t using Nat.strongRecOn with
  | ind t ih =>
    intro ht fuel pre line hl hlen hf
    have hnt := hI.1
    obtain ⟨fuel, rfl⟩ : ∃ g, fuel = g + 1 := ⟨fuel - 1, by omega⟩
    have e0 : F_X11_findLaws_4L now row (fuel + 1) (nI pre.length) (nI t) many line = F_X11_findLaws_4 (F_X11_findLaws_4L now row fuel) (nI pre.length) (nI t) many line now row := rfl
    rw [e0]
    have e256 : (256 : Int32) + nI t = nI (256 + t) := nI_add 256 t
    have hpos : 1 ≤ (ch now t).length := by unfold ch chn; simp
    unfold F_X11_findLaws_4
    rw [if_neg (nI_pos (by omega)), ck_ok rfl (show pre.length < 6 by omega) (by decide), lt_e, lt_e, e256, ck_ok rfl (show 256 + t < 1600 by omega) (by decide), lt_e, nI_clamp (n := pre.length) (by omega), nI_clamp (n := 256 + t) (by omega), nI_1]
    rcases (hI.2 t ht).1 with h | ⟨p, hp, h⟩
    · have hct := ch_top hI ht h
      rw [hct] at hf hlen ⊢
      obtain ⟨fuel, rfl⟩ : ∃ g, fuel = g + 1 := ⟨fuel - 1, by simp at hf; omega⟩
      refine ⟨upd line pre.length (nI t), ?_, arr_snoc hl⟩
      show F_X11_findLaws_4 _ (nI (pre.length + 1)) (now (256 + t)) many _ now row = _
      unfold F_X11_findLaws_4
      rw [if_pos (by rw [h]; decide), lt_e, lt_e, List.length_append, List.length_singleton]
    · have hct := ch_up hI ht hp h
      rw [hct] at hf hlen ⊢
      rw [List.length_cons] at hf hlen
      rw [h]
      have := ih p hp (by omega) fuel (pre ++ [t]) (upd line pre.length (nI t)) (arr_snoc hl) (by rw [List.length_append, List.length_singleton]; omega) (by omega)
      rw [List.length_append, List.length_singleton, List.append_assoc] at this
      exact this
theorem f_own (hI : TI now nt nl) (k42 : Int32 → Int32 → (Nat → Int32) → Option (Int32 × (Nat → Int32) × (Nat → Int32))) {i t : Nat} {line : Nat → Int32} (hi : i < 6) (hli : line i = nI t) (ht : t < nt) (fuel : Nat) :
    ∀ (k : Nat) (acc : List Nat) (row : Nat → Int32), k ≤ (ow now t).length → arr row acc → acc.length + ((ow now t).length - k) ≤ 36 → (ow now t).length - k < fuel → ∃ row', F_X11_findLaws_50L k42 (nI i) line now fuel (nI k) (nI acc.length) row = k42 (xj i) (nI (acc ++ (ow now t).drop k).length) row' ∧ arr row' (acc ++ (ow now t).drop k) := by
  have hnt := hI.1
  have h6 := ow_len hI ht
  have hcnt : now (264 + t) = nI (ow now t).length := by
    obtain ⟨-, c, h1, h2, -⟩ := hI.2 t ht
    unfold ow
    rw [List.length_map, List.length_range, gn_of h2 (by omega)]
    exact h2
  have e264 : (264 : Int32) + nI t = nI (264 + t) := nI_add 264 t
  induction fuel with
  | zero => intro k acc row _ _ _ h; exact absurd h (Nat.not_lt_zero _)
  | succ fuel ih =>
    intro k acc row hk hr hlen hf
    have e0 : F_X11_findLaws_50L k42 (nI i) line now (fuel + 1) (nI k) (nI acc.length) row = F_X11_findLaws_50 k42 (F_X11_findLaws_50L k42 (nI i) line now fuel) (nI i) (nI k) (nI acc.length) line now row := rfl
    rw [e0]
    unfold F_X11_findLaws_50
    rw [ck_ok rfl hi (by decide), nI_clamp (n := i) (by omega), hli, e264, ck_ok rfl (show 264 + t < 1600 by omega) (by decide), nI_clamp (n := 264 + t) (by omega), hcnt]
    by_cases c : k < (ow now t).length
    · have e272 : ((272 : Int32) + (6 : Int32) * nI t) + nI k = nI (272 + 6 * t + k) := by
        rw [show (272 : Int32) = nI 272 from rfl, show (6 : Int32) = nI 6 from rfl, pk_mul, nI_add, nI_add]
      rw [if_neg (nI_ge c (by omega)), ck_ok rfl hi (by decide), e272, ck_ok rfl (show 272 + 6 * t + k < 1600 by omega) (by decide), ck_ok rfl (show acc.length < 36 by omega) (by decide), lt_e, lt_e, lt_e, nI_1, nI_1, nI_clamp (n := acc.length) (by omega), nI_clamp (n := 272 + 6 * t + k) (by omega), (ow_at hI ht c).1, drop_hd c]
      have := ih (k + 1) (acc ++ [(ow now t).getD k 0]) _ c (arr_snoc hr) (by rw [List.length_append, List.length_singleton]; omega) (by omega)
      rw [List.length_append, List.length_singleton, List.append_assoc] at this
      exact this
    · rw [if_pos (nI_le (by omega) (by omega)), lt_e, xj_dec, List.drop_eq_nil_of_le (by omega), List.append_nil]
      exact ⟨row, rfl, hr⟩
theorem f_rows (hI : TI now nt nl) {line : Nat → Int32} {cs : List Nat} (hl : arr line cs) (hcs : cs.length ≤ 6) (hc : dn nt cs) (fuel : Nat) :
    ∀ (j : Nat) (acc : List Nat) (row : Nat → Int32), j ≤ cs.length → arr row acc → acc.length ≤ 6 * (cs.length - j) → j < fuel → ∃ row', F_X11_findLaws_42L line now fuel (xj j) (nI acc.length) row = some (nI (acc ++ (cs.take j).reverse.flatMap (ow now)).length, line, row') ∧ arr row' (acc ++ (cs.take j).reverse.flatMap (ow now)) := by
  induction fuel with
  | zero => intro j acc row _ _ _ h; exact absurd h (Nat.not_lt_zero _)
  | succ fuel ih =>
    intro j acc row hj hr hlen hf
    have e0 : F_X11_findLaws_42L line now (fuel + 1) (xj j) (nI acc.length) row = F_X11_findLaws_42 (F_X11_findLaws_42L line now fuel) (xj j) (nI acc.length) line now row := rfl
    rw [e0]
    unfold F_X11_findLaws_42
    cases j with
    | zero =>
      rw [if_pos (by show (-1 : Int32) < 0; decide)]
      refine ⟨row, ?_, ?_⟩
      · simp
      · simpa using hr
    | succ i =>
      have ht : cs.getD i 0 < nt := by
        have hm : cs.getD i 0 ∈ cs := by
          rw [List.getD_eq_getElem?_getD, List.getElem?_eq_getElem (by omega)]
          exact List.getElem_mem _
        exact hc _ hm
      have h6 := ow_len hI ht
      rw [if_neg (show ¬ xj (i + 1) < 0 from nI_pos (by omega))]
      obtain ⟨row', e1, e2⟩ := f_own hI (F_X11_findLaws_42L line now fuel) (show i < 6 by omega) (hl i (by omega)) ht fu_ 0 acc row (Nat.zero_le _) hr (by omega) (by unfold fu_; omega)
      rw [List.drop_zero] at e1 e2
      have := ih i (acc ++ ow now (cs.getD i 0)) row' (by omega) e2 (by rw [List.length_append]; omega) (by omega)
      rw [take_rev (by omega), List.flatMap_cons, ← List.append_assoc]
      obtain ⟨row2, e3, e4⟩ := this
      exact ⟨row2, e1.trans e3, e4⟩
theorem m_findLaws (hI : TI now nt nl) {t : Nat} (ht : t < nt) (many : Int32) (line row : Nat → Int32) : ∃ line' row', F_X11_findLaws (nI t) many line now row = some (nI (rows now t).length, line', row') ∧ arr row' (rows now t) := by
  have hnt := hI.1
  have hlen := ch_len hI t ht
  obtain ⟨line', e1, e2⟩ := f_line hI row many t ht fu_ [] line (fun i hi => absurd hi (Nat.not_lt_zero i)) (by simp; omega) (by unfold fu_; omega)
  rw [List.nil_append] at e1 e2
  have hc : dn nt (ch now t) := fun x hx => by have := ch_le hI t ht x hx; omega
  have hx : nI (ch now t).length - 1 = xj (ch now t).length := by
    cases (ch now t).length with
    | zero => decide
    | succ n => exact nI_pred n
  obtain ⟨row', e3, e4⟩ := f_rows hI e2 (by omega) hc fu_ (ch now t).length [] row (Nat.le_refl _) (fun i hi => absurd hi (Nat.not_lt_zero i)) (Nat.zero_le _) (by unfold fu_; omega)
  rw [List.take_length, List.nil_append] at e3 e4
  refine ⟨line', row', ?_, e4⟩
  show F_X11_findLaws_4L now row fu_ (nI 0) (nI t) many line = _
  rw [hx] at e1
  exact e1.trans e3
end FL
