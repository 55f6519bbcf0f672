/-! few -/
theorem m_bits8 : ∀ b, b < 256 → F_X11_bits (nI b) = some (nI (fb_ct (fun k => b.testBit k) 8)) := by decide +kernel
theorem few_max : ∀ n, n < 5 → ∀ b, b < 16 → b ≤ 2 ^ n - 1 → fb_ct (fun k => b.testBit k) 8 ≤ fb_ct (fun k => (2 ^ n - 1).testBit k) 8 := by decide +kernel
theorem bit_is {b s : Nat} (hb : b < 2 ^ 31) (hs : s < 32) : (nI b >>> (nI s &&& 31)) &&& 1 = 1 ↔ b.testBit s = true := by
  have h := is_in hb hs
  unfold F_X1_isIn F_X1_isIn_0 at h
  constructor
  · intro q
    rw [if_pos q] at h
    cases hx : b.testBit s with
    | true => rfl
    | false => rw [hx] at h; exact absurd (Option.some.inj h) (by decide)
  · intro q
    apply Classical.byContradiction
    intro c
    rw [if_neg c, q] at h
    exact absurd (Option.some.inj h) (by decide)
def selL (l : List Nat) (s : Nat) : Nat → List Nat
  | 0 => []
  | k + 1 => selL l s k ++ (if s.testBit k then [l.getD k 0] else [])
theorem selL_len (l : List Nat) (s : Nat) : ∀ k, (selL l s k).length ≤ k := by
  intro k
  induction k with
  | zero => exact Nat.le_refl 0
  | succ k ih =>
    unfold selL
    rw [List.length_append]
    split
    · rw [List.length_singleton]; omega
    · rw [List.length_nil]; omega
theorem selL_v {nl : Nat} {l : List Nat} {s n : Nat} (h : ∀ k, k < n → l.getD k 0 < nl) : ∀ k, k ≤ n → dn nl (selL l s k) := by
  intro k
  induction k with
  | zero => intro _; exact dn_nil
  | succ k ih =>
    intro hk x hx
    unfold selL at hx
    rcases List.mem_append.mp hx with h1 | h1
    · exact ih (by omega) x h1
    · split at h1
      · rw [List.mem_singleton.mp h1]; exact h k (by omega)
      · cases h1
theorem selL_all {l : List Nat} {n : Nat} (hl : l.length = n) : selL l (2 ^ n - 1) n = l := by
  have : ∀ k, k ≤ n → selL l (2 ^ n - 1) k = l.take k := by
    intro k
    induction k with
    | zero => intro _; rw [List.take_zero]; rfl
    | succ k ih =>
      intro hk
      unfold selL
      rw [ih (by omega), Nat.testBit_two_pow_sub_one, decide_eq_true (show k < n by omega), if_pos rfl, List.take_succ, List.getD_eq_getElem?_getD, List.getElem?_eq_getElem (show k < l.length by omega)]
      rfl
  rw [this n (Nat.le_refl _), ← hl, List.take_length]
theorem arr_sn {f : Nat → Int32} {o : List Nat} {s : Nat} (h : ∀ j, j < o.length → f j = nI (o.getD j 0)) : ∀ j, j < (o ++ [s]).length → upd f o.length (nI s) j = nI ((o ++ [s]).getD j 0) := arr_snoc h
section FW
variable {t n : Nat} {l : List Nat}
theorem c_chL (ht : t < 6) (hn : n ≤ 4) {s : Nat} (hs16 : s < 16) {stl : Nat → Int32} (hs : ∀ j, j < n → stl j = nI (l.getD j 0)) (To : Nat → Nat → Int32) (TO1 : Nat → Int32) (fuel : Nat) :
    ∀ (k : Nat) (own : Nat → Nat → Int32), k ≤ n → n - k < fuel → (∀ a, a ≠ t → own a = To a) → arr (own t) (selL l s k) → ∃ own', F_X0_choose_6L (nI t) (nI n) (nI s) stl fuel (nI (selL l s k).length) (nI k) own TO1 = some (own', upd TO1 t (nI (selL l s n).length)) ∧ (∀ a, a ≠ t → own' a = To a) ∧ arr (own' t) (selL l s n) := by
  induction fuel with
  | zero => intro k own _ h; exact absurd h (Nat.not_lt_zero _)
  | succ fuel ih =>
    intro k own hk hf h1 h2
    have e0 : F_X0_choose_6L (nI t) (nI n) (nI s) stl (fuel + 1) (nI (selL l s k).length) (nI k) own TO1 = F_X0_choose_6 (F_X0_choose_6L (nI t) (nI n) (nI s) stl fuel) (nI t) (nI n) (nI s) (nI (selL l s k).length) (nI k) stl own TO1 := rfl
    have hlen := selL_len l s k
    rw [e0]
    unfold F_X0_choose_6 F_X0_choose_47
    by_cases c : k = n
    · subst c
      rw [if_pos (nI_le (Nat.le_refl _) (by omega)), ck_ok rfl ht (by decide), lt_e, nI_clamp (n := t) (by omega)]
      exact ⟨own, rfl, h1, h2⟩
    · rw [if_neg (nI_ge (by omega) (by omega))]
      by_cases cb : s.testBit k = true
      · have e : selL l s (k + 1) = selL l s k ++ [l.getD k 0] := by
          show selL l s k ++ (if s.testBit k then _ else _) = _
          rw [if_pos cb]
        rw [if_pos ((bit_is (by omega) (by omega)).mpr cb), ck_ok rfl ht (by decide), ck_ok rfl (show k < 4 by omega) (by decide), ck_ok rfl (show (selL l s k).length < 6 by omega) (by decide), lt_e, lt_e, lt_e, nI_1, nI_1, nI_clamp (n := t) (by omega), nI_clamp (n := k) (by omega), nI_clamp (n := (selL l s k).length) (by omega), hs k (by omega)]
        have := ih (k + 1) (ur_ own t (upd (own t) (selL l s k).length (nI (l.getD k 0)))) (by omega) (by omega) (fun a ha => by rw [ur_n ha]; exact h1 a ha) (by rw [ur_s, e]; exact arr_snoc h2)
        rw [e, List.length_append, List.length_singleton] at this
        exact this
      · have e : selL l s (k + 1) = selL l s k := by
          show selL l s k ++ (if s.testBit k then _ else _) = _
          rw [if_neg cb, List.append_nil]
        rw [if_neg (fun q => cb ((bit_is (by omega) (by omega)).mp q)), lt_e, nI_1]
        have := ih (k + 1) own (by omega) (by omega) h1 (by rw [e]; exact h2)
        rw [e] at this
        exact this
theorem c_choose (ht : t < 6) (hn : n ≤ 4) {s : Nat} (hs16 : s < 16) {stl : Nat → Int32} (hs : ∀ j, j < n → stl j = nI (l.getD j 0)) {To own : Nat → Nat → Int32} (TO1 : Nat → Int32) (h1 : ∀ a, a ≠ t → own a = To a) : ∃ own', F_X0_choose (nI t) (nI n) (nI s) stl own TO1 = some (own', upd TO1 t (nI (selL l s n).length)) ∧ (∀ a, a ≠ t → own' a = To a) ∧ arr (own' t) (selL l s n) :=
  c_chL ht hn hs16 hs To TO1 fu_ 0 own (Nat.zero_le _) (by unfold fu_; omega) h1 (fun i hi => absurd hi (Nat.not_lt_zero i))
theorem m_chL (K : Int32 → Int32 → Int32 → Int32 → Int32 → Int32 → Int32 → (Nat → Int32) → (Nat → Int64) → (Nat → Int32) → (Nat → Int32) → (Nat → Int32) → (Nat → Int32) → (Nat → Int32) → (Nat → Int32) → Option (Int32 × Int32 × Int32 × Int32 × Int32 × Int32 × Int32 × (Nat → Int32) × (Nat → Int64) × (Nat → Int32) × (Nat → Int32) × (Nat → Int32) × (Nat → Int32) × (Nat → Int32) × (Nat → Int32) × (Nat → Int32) × (Nat → Int32))) (ht : t < 6) (hn : n ≤ 4) {s : Nat} (hs16 : s < 16) {own places : Nat → Int32} (hs : ∀ j, j < n → own j = nI (l.getD j 0)) (x2 x4 x5 fi mn sz mk ch ss : Int32) (isE : Nat → Int32) (led : Nat → Int64) (line made row some1 word : Nat → Int32) (now : Nat → Int32) (fuel : Nat) :
    ∀ (k : Nat) (now1 : Nat → Int32), k ≤ n → n - k < fuel → (∀ i, i ≠ 264 + t → (i < 272 + 6 * t ∨ 272 + 6 * t + n ≤ i) → now1 i = now i) → arr (fun j => now1 (272 + 6 * t + j)) (selL l s k) → ∃ z now2, F_X11_few_82L K (nI t) x2 (nI n) x4 x5 (nI s) fi own places fuel (nI (selL l s k).length) (nI k) mn sz mk ch ss isE led line made now1 row some1 word = F_X11_few_82L K (nI t) x2 (nI n) x4 x5 (nI s) fi own places (z + 1) (nI (selL l s n).length) (nI n) mn sz mk ch ss isE led line made now2 row some1 word ∧ (∀ i, i ≠ 264 + t → (i < 272 + 6 * t ∨ 272 + 6 * t + n ≤ i) → now2 i = now i) ∧ arr (fun j => now2 (272 + 6 * t + j)) (selL l s n) := by
  induction fuel with
  | zero => intro k now1 _ h; exact absurd h (Nat.not_lt_zero _)
  | succ fuel ih =>
    intro k now1 hk hf h1 h2
    by_cases c : k = n
    · subst c
      exact ⟨fuel, now1, rfl, h1, h2⟩
    · have e0 : F_X11_few_82L K (nI t) x2 (nI n) x4 x5 (nI s) fi own places (fuel + 1) (nI (selL l s k).length) (nI k) mn sz mk ch ss isE led line made now1 row some1 word = F_X11_few_82 K (F_X11_few_82L K (nI t) x2 (nI n) x4 x5 (nI s) fi own places fuel) (nI t) x2 (nI n) x4 x5 (nI s) (nI (selL l s k).length) (nI k) fi mn sz mk ch ss isE led line made now1 own places row some1 word := rfl
      have hlen := selL_len l s k
      rw [e0]
      unfold F_X11_few_82 F_X11_few_125
      rw [if_neg (nI_ge (by omega) (by omega))]
      by_cases cb : s.testBit k = true
      · have e : selL l s (k + 1) = selL l s k ++ [l.getD k 0] := by
          show selL l s k ++ (if s.testBit k then _ else _) = _
          rw [if_pos cb]
        have e272 : ((272 : Int32) + (6 : Int32) * nI t) + nI (selL l s k).length = nI (272 + 6 * t + (selL l s k).length) := by
          rw [show (272 : Int32) = nI 272 from rfl, show (6 : Int32) = nI 6 from rfl, pk_mul, nI_add, nI_add]
        rw [if_pos ((bit_is (by omega) (by omega)).mpr cb), ck_ok rfl (show k < 6 by omega) (by decide), e272, ck_ok rfl (show 272 + 6 * t + (selL l s k).length < 1600 by omega) (by decide), lt_e, lt_e, lt_e, nI_1, nI_1, nI_clamp (n := k) (by omega), nI_clamp (n := 272 + 6 * t + (selL l s k).length) (by omega), hs k (by omega)]
        have hx : arr (fun j => upd now1 (272 + 6 * t + (selL l s k).length) (nI (l.getD k 0)) (272 + 6 * t + j)) (selL l s (k + 1)) := by
          rw [e]
          refine arr_of (arr_snoc (s := l.getD k 0) h2) (fun j hj => ?_)
          by_cases cj : j = (selL l s k).length
          · subst cj
            show upd now1 _ _ (272 + 6 * t + (selL l s k).length) = _
            rw [pk_us, pk_us]
          · show upd now1 _ _ (272 + 6 * t + j) = _
            rw [pk_un (by omega), pk_un cj]
        have := ih (k + 1) (upd now1 (272 + 6 * t + (selL l s k).length) (nI (l.getD k 0))) (by omega) (by omega) (fun i h3 h4 => by rw [pk_un (by omega)]; exact h1 i h3 h4) hx
        rw [e, List.length_append, List.length_singleton] at this
        exact this
      · have e : selL l s (k + 1) = selL l s k := by
          show selL l s k ++ (if s.testBit k then _ else _) = _
          rw [if_neg cb, List.append_nil]
        rw [if_neg (fun q => cb ((bit_is (by omega) (by omega)).mp q)), lt_e, nI_1]
        have := ih (k + 1) now1 (by omega) (by omega) h1 (by rw [e]; exact h2)
        rw [e] at this
        exact this
theorem m_backL (ht : t < 6) (hn : n ≤ 4) {own : Nat → Int32} (hs : ∀ j, j < n → own j = nI (l.getD j 0)) (now0 : Nat → Int32) (fuel : Nat) :
    ∀ (k : Nat) (now : Nat → Int32), k ≤ n → n - k < fuel → (∀ i, (i < 272 + 6 * t ∨ 272 + 6 * t + n ≤ i) → now i = now0 i) → (∀ j, j < k → now (272 + 6 * t + j) = nI (l.getD j 0)) → ∃ now', F_X11_takeBack_2L (nI t) (nI n) own fuel (nI k) now = some now' ∧ (∀ i, (i < 272 + 6 * t ∨ 272 + 6 * t + n ≤ i) → now' i = now0 i) ∧ ∀ j, j < n → now' (272 + 6 * t + j) = nI (l.getD j 0) := by
  induction fuel with
  | zero => intro k now _ h; exact absurd h (Nat.not_lt_zero _)
  | succ fuel ih =>
    intro k now hk hf h1 h2
    have e0 : F_X11_takeBack_2L (nI t) (nI n) own (fuel + 1) (nI k) now = F_X11_takeBack_2 (F_X11_takeBack_2L (nI t) (nI n) own fuel) (nI t) (nI n) (nI k) now own := rfl
    rw [e0]
    unfold F_X11_takeBack_2
    by_cases c : k = n
    · subst c
      rw [if_pos (nI_le (Nat.le_refl _) (by omega))]
      exact ⟨now, rfl, h1, h2⟩
    · have e272 : ((272 : Int32) + (6 : Int32) * nI t) + nI k = nI (272 + 6 * t + k) := by
        rw [show (272 : Int32) = nI 272 from rfl, show (6 : Int32) = nI 6 from rfl, pk_mul, nI_add, nI_add]
      rw [if_neg (nI_ge (by omega) (by omega)), ck_ok rfl (show k < 6 by omega) (by decide), e272, ck_ok rfl (show 272 + 6 * t + k < 1600 by omega) (by decide), lt_e, lt_e, nI_1, nI_clamp (n := 272 + 6 * t + k) (by omega), nI_clamp (n := k) (by omega), hs k (by omega)]
      refine ih (k + 1) _ (by omega) (by omega) (fun i hi => ?_) (fun j hj => ?_)
      · rw [pk_un (by omega)]; exact h1 i hi
      · by_cases c2 : j = k
        · subst c2; exact pk_us
        · rw [pk_un (by omega)]; exact h2 j (by omega)
end FW
/-- the tongue has the own laws sl alone, in both -/
theorem STf_TT {now now' : Nat → Int32} {nl nt t n : Nat} {To To' : Nat → Nat → Int32} {TO TO' Tp : Nat → Int32} {sl : List Nat} (hT : TT now nl nt To TO Tp) (h16 : nl ≤ 16) (ht : t < nt) (hn : n ≤ 6) (hsn : sl.length ≤ n) (hv : dn nl sl) (h1 : ∀ i, i ≠ 264 + t → (i < 272 + 6 * t ∨ 272 + 6 * t + n ≤ i) → now' i = now i) (h2 : now' (264 + t) = nI sl.length) (h3 : arr (fun j => now' (272 + 6 * t + j)) sl) (h4 : ∀ a, a ≠ t → To' a = To a) (h5 : TO' t = nI sl.length) (h6 : ∀ a, a ≠ t → TO' a = TO a) (h7 : arr (To' t) sl) : TT now' nl nt To' TO' Tp := by
  have hnt := hT.1.1
  have hI' : TI now' nt nl := by
    refine ⟨hnt, fun s hs => ?_⟩
    obtain ⟨a1, c, c1, c2, c3⟩ := hT.1.2 s hs
    rw [h1 (256 + s) (by omega) (by omega)]
    by_cases cs : s = t
    · subst cs
      exact ⟨a1, sl.length, by omega, h2, fun k hk => ⟨sl.getD k 0, dn_at hv hk, by have := dn_at hv hk; omega, h3 k hk⟩⟩
    · rw [h1 (264 + s) (by omega) (by omega)]
      exact ⟨a1, c, c1, c2, fun k hk => by rw [h1 (272 + 6 * s + k) (by omega) (by omega)]; exact c3 k hk⟩
  refine TT_mk hI' (fun s hs => ?_)
  obtain ⟨c, c1, c2, c3, c4, c5, c6⟩ := TT_at hT hs
  rw [h1 (256 + s) (by omega) (by omega)]
  by_cases cs : s = t
  · subst cs
    rw [h2, h5]
    refine ⟨c4, rfl, fun k hk => ?_⟩
    rw [gn_of h2 (by omega)] at hk
    rw [h7 k hk]
    exact (h3 k hk).symm
  · have e264 := h1 (264 + s) (by omega) (by omega)
    rw [e264, h6 s cs]
    refine ⟨c4, c3.trans c2.symm, fun k hk => ?_⟩
    rw [gn_of (e264.trans c2) (by omega)] at hk
    obtain ⟨a, a1, a2, a3, a4⟩ := c6 k hk
    rw [h4 s cs, h1 (272 + 6 * s + k) (by omega) (by omega), a3, a4]
section FW2
variable {now : Nat → Int32} {ns nl nt nm most t n : Nat} {Lf Lh Li Lk LK LN LY Tp TO : Nat → Int32} {To : Nat → Nat → Int32} {Mf : Nat → Nat → Int64} {l : List Nat}
theorem few_loop (hL : LL now ns nl Lf Lh Li Lk LK LN LY) (hT : TT now nl nt To TO Tp) (hM : MN now ns nt nm Mf) (h8 : nm ≤ 8) (h4 : most ≤ 4) (n0 : now 0 = nI ns) (n2 : now 2 = nI nt) (n3 : now 3 = nI nm) (ht : t < nt) (hn : n ≤ 4) (hl : l.length = n) (hlv : ∀ k, k < n → l.getD k 0 < nl) {stl own seats places : Nat → Int32} (hs1 : ∀ j, j < n → stl j = nI (l.getD j 0)) (hs2 : ∀ j, j < n → own j = nI (l.getD j 0)) (fi due : Int32) (fuel : Nat) :
    ∀ (s best : Nat) (goals : Nat → Int64) (t1 : Int32) (To1 : Nat → Nat → Int32) (TO1 : Nat → Int32) (mn sz mk ch ss : Int32) (isE : Nat → Int32) (led : Nat → Int64) (line made now1 row some1 word : Nat → Int32), s ≤ 2 ^ n - 1 → 2 ^ n - s + 1 < fuel → best ≤ 2 ^ n - 1 → (∀ a, a ≠ t → To1 a = To a) → (∀ a, a ≠ t → TO1 a = TO a) → (∀ i, i ≠ 264 + t → (i < 272 + 6 * t ∨ 272 + 6 * t + n ≤ i) → now1 i = now i) →
    ∃ v goals2 t2 To2 TO2 mn2 sz2 mk2 ch2 ss2 isE2 led2 line2 made2 now2 row2 some2 word2, F_X0_fewest_40L (nI t) (nI most) (nI n) (nI (2 ^ n - 1)) due seats stl Lf Lh Li Lk (nI nm) Mf (nI ns) (nI nt) Tp fuel (nI best) (nI s) goals t1 To1 TO1 = some (v, goals2, seats, stl, t2, To2, TO2) ∧ F_X11_few_68L (nI t) (nI most) (nI n) due fi own places fuel (nI best) (nI s) mn sz mk ch ss isE led line made now1 row some1 word = some (v, fi, mn2, sz2, mk2, ch2, ss2, isE2, led2, line2, made2, now2, own, places, row2, some2, word2) ∧ (∀ i, (i < 264 ∨ 308 ≤ i) → now2 i = now i) ∧ TT now2 nl nt To2 TO2 Tp := by
  have hnt := hT.1.1
  have h16 := hL.1.1
  have hpow : 2 ^ n ≤ 16 := (Nat.pow_le_pow_right (by decide) hn : 2 ^ n ≤ 2 ^ 4)
  have hpos : 0 < 2 ^ n := Nat.two_pow_pos n
  have esh : (1 : Int32) <<< (nI n &&& 31) = nI (2 ^ n) := sh1 (by omega)
  have e264 : (264 : Int32) + nI t = nI (264 + t) := nI_add 264 t
  induction fuel with
  | zero => intro s best goals t1 To1 TO1 mn sz mk ch ss isE led line made now1 row some1 word _ h; exact absurd h (Nat.not_lt_zero _)
  | succ fuel ih =>
    intro s best goals t1 To1 TO1 mn sz mk ch ss isE led line made now1 row some1 word hs hf hbest hB1 hB2 hB3
    have e0 : F_X0_fewest_40L (nI t) (nI most) (nI n) (nI (2 ^ n - 1)) due seats stl Lf Lh Li Lk (nI nm) Mf (nI ns) (nI nt) Tp (fuel + 1) (nI best) (nI s) goals t1 To1 TO1 = F_X0_fewest_40 (F_X0_fewest_40L (nI t) (nI most) (nI n) (nI (2 ^ n - 1)) due seats stl Lf Lh Li Lk (nI nm) Mf (nI ns) (nI nt) Tp fuel) (nI t) (nI most) (nI n) (nI (2 ^ n - 1)) due (nI best) (nI s) goals seats stl t1 Lf Lh Li Lk (nI nm) Mf (nI ns) (nI nt) To1 TO1 Tp := rfl
    have e1 : F_X11_few_68L (nI t) (nI most) (nI n) due fi own places (fuel + 1) (nI best) (nI s) mn sz mk ch ss isE led line made now1 row some1 word = F_X11_few_68 (F_X11_few_68L (nI t) (nI most) (nI n) due fi own places fuel) (nI t) (nI most) (nI n) due (nI best) (nI s) fi mn sz mk ch ss isE led line made now1 own places row some1 word := rfl
    rw [e0, e1]
    obtain ⟨z, now2, m1, m2, m3⟩ := m_chL (F_X11_few_68L (nI t) (nI most) (nI n) due fi own places fuel) (show t < 6 by omega) hn (show s < 16 by omega) (places := places) hs2 (nI most) due (nI best) fi mn sz mk ch ss isE led line made row some1 word now fu_ 0 now1 (Nat.zero_le _) (by unfold fu_; omega) hB3 (fun i hi => absurd hi (Nat.not_lt_zero i))
    have hslen := selL_len l s n
    have hslv := selL_v (s := s) hlv n (Nat.le_refl _)
    have hr1 : F_X11_few_68 (F_X11_few_68L (nI t) (nI most) (nI n) due fi own places fuel) (nI t) (nI most) (nI n) due (nI best) (nI s) fi mn sz mk ch ss isE led line made now1 own places row some1 word = F_X11_few_82 (F_X11_few_68L (nI t) (nI most) (nI n) due fi own places fuel) (F_X11_few_82L (F_X11_few_68L (nI t) (nI most) (nI n) due fi own places fuel) (nI t) (nI most) (nI n) due (nI best) (nI s) fi own places z) (nI t) (nI most) (nI n) due (nI best) (nI s) (nI (selL l s n).length) (nI n) fi mn sz mk ch ss isE led line made now2 own places row some1 word := by
      unfold F_X11_few_68
      rw [esh, if_neg (nI_ge (by omega) (by omega))]
      exact m1
    rw [hr1]
    have hbb := m_bits8 best (by omega)
    have hbs := m_bits8 s (by omega)
    have cbb := bc8 best (by omega)
    have cbs := bc8 s (by omega)
    have hle1 := fb_ct_le (fun k => best.testBit k) 8
    have hle2 := fb_ct_le (fun k => s.testBit k) 8
    have hag : ∀ i, i ≠ 264 + t → (i < 272 + 6 * t ∨ 272 + 6 * t + n ≤ i) → upd now2 (264 + t) (nI (selL l s n).length) i = now i := fun i h1 h2 => by rw [pk_un h1]; exact m2 i h1 h2
    have hag3 : arr (fun j => upd now2 (264 + t) (nI (selL l s n).length) (272 + 6 * t + j)) (selL l s n) := arr_of m3 (fun j hj => by show upd now2 _ _ (272 + 6 * t + j) = _; rw [pk_un (by omega)])
    have hag2 : upd now2 (264 + t) (nI (selL l s n).length) (264 + t) = nI (selL l s n).length := pk_us
    have hr2 : F_X11_few_82 (F_X11_few_68L (nI t) (nI most) (nI n) due fi own places fuel) (F_X11_few_82L (F_X11_few_68L (nI t) (nI most) (nI n) due fi own places fuel) (nI t) (nI most) (nI n) due (nI best) (nI s) fi own places z) (nI t) (nI most) (nI n) due (nI best) (nI s) (nI (selL l s n).length) (nI n) fi mn sz mk ch ss isE led line made now2 own places row some1 word = (if nI (fb_ct (fun k => best.testBit k) 8) ≤ nI (fb_ct (fun k => s.testBit k) 8) then (F_X11_few_68L (nI t) (nI most) (nI n) due fi own places fuel (nI best) (nI (s + 1)) mn sz mk ch ss isE led line made (upd now2 (264 + t) (nI (selL l s n).length)) row some1 word) else (bn13_ (F_X11_explained (nI most) mn sz mk ch ss isE led line made (upd now2 (264 + t) (nI (selL l s n).length)) row some1 word) (fun y25 o13 o14 o15 o16 o17 o18 o19 o20 o21 o22 o23 o24 => if y25 < due then (F_X11_few_68L (nI t) (nI most) (nI n) due fi own places fuel (nI best) (nI (s + 1)) o13 o14 o15 o16 o17 o18 o19 o20 o21 (upd now2 (264 + t) (nI (selL l s n).length)) o22 o23 o24) else (F_X11_few_68L (nI t) (nI most) (nI n) due fi own places fuel (nI s) (nI (s + 1)) o13 o14 o15 o16 o17 o18 o19 o20 o21 (upd now2 (264 + t) (nI (selL l s n).length)) o22 o23 o24)))) := by
      unfold F_X11_few_82 F_X11_few_170
      rw [if_pos (nI_le (Nat.le_refl _) (by omega)), e264, ck_ok rfl (show 264 + t < 1600 by omega) (by decide), lt_e, nI_clamp (n := 264 + t) (by omega), hbs, b1_s, hbb, b1_s]
      simp only [lt_e, nI_1]
    rw [hr2]
    generalize hnow3 : upd now2 (264 + t) (nI (selL l s n).length) = now3 at hag hag2 hag3
    by_cases clast : s = 2 ^ n - 1
    · -- all laws: the end
      subst clast
      have hmax := few_max n (by omega) best (by omega) hbest
      rw [if_pos (nI_le hmax (by omega))]
      have e2n : 2 ^ n - 1 + 1 = 2 ^ n := by omega
      rw [e2n]
      obtain ⟨own2, c1, c2, c3⟩ := c_choose (show t < 6 by omega) hn (show 2 ^ n - 1 < 16 by omega) hs1 TO1 hB1
      obtain ⟨fuel, rfl⟩ : ∃ g, fuel = g + 1 := ⟨fuel - 1, by omega⟩
      obtain ⟨now4, k1, k2, k3⟩ := m_backL (show t < 6 by omega) hn hs2 (upd now3 (264 + t) (nI n)) fu_ 0 (upd now3 (264 + t) (nI n)) (Nat.zero_le _) (by unfold fu_; omega) (fun _ _ => rfl) (fun j h => absurd h (Nat.not_lt_zero j))
      rw [selL_all hl] at c1 c3
      have q264 : now4 (264 + t) = nI n := by rw [k2 _ (by omega), pk_us]
      have qn : ∀ i, i ≠ 264 + t → (i < 272 + 6 * t ∨ 272 + 6 * t + n ≤ i) → now4 i = now i := fun i h1 h2 => by rw [k2 i h2, pk_un h1]; exact hag i h1 h2
      refine ⟨nI best, goals, t1, own2, upd TO1 t (nI l.length), mn, sz, mk, ch, ss, isE, led, line, made, now4, row, some1, word, ?_, ?_, fun i hi => qn i (by omega) (by omega), ?_⟩
      · unfold F_X0_fewest_40
        rw [if_pos (nI_le (Nat.le_refl _) (by omega)), c1, b2_s]
      · show F_X11_few_68 (F_X11_few_68L (nI t) (nI most) (nI n) due fi own places fuel) (nI t) (nI most) (nI n) due (nI best) (nI (2 ^ n)) fi mn sz mk ch ss isE led line made now3 own places row some1 word = _
        unfold F_X11_few_68 F_X11_takeBack F_X11_takeBack_0
        rw [esh, if_pos (nI_le (Nat.le_refl _) (by omega)), e264, ck_ok rfl (show 264 + t < 1600 by omega) (by decide), lt_e, nI_clamp (n := 264 + t) (by omega), show (0 : Int32) = nI 0 from rfl, k1, b1_s]
      · refine STf_TT (sl := l) (n := n) hT h16 ht (by omega) (by omega) (fun x hx => ?_) qn (by rw [hl]; exact q264) (fun j hj => k3 j (by omega)) c2 (by rw [pk_us]) (fun a ha => by rw [pk_un ha]; exact hB2 a ha) c3
        obtain ⟨k, hk⟩ := List.getElem?_of_mem hx
        have hkl := (List.getElem?_eq_some_iff.mp hk).1
        have := hlv k (by omega)
        rw [List.getD_eq_getElem?_getD, hk] at this
        exact this
    · have hs2' : s < 2 ^ n - 1 := by omega
      unfold F_X0_fewest_40 F_X0_fewest_82
      rw [if_neg (nI_ge hs2' (by omega)), cbs, b1_s, cbb, b1_s]
      by_cases cb : nI (fb_ct (fun k => best.testBit k) 8) ≤ nI (fb_ct (fun k => s.testBit k) 8)
      · rw [if_pos cb, if_pos cb, lt_e, nI_1]
        exact ih (s + 1) best goals t1 To1 TO1 mn sz mk ch ss isE led line made now3 row some1 word (by omega) (by omega) hbest hB1 hB2 hag
      · rw [if_neg cb, if_neg cb]
        obtain ⟨own2, c1, c2, c3⟩ := c_choose (show t < 6 by omega) hn (show s < 16 by omega) hs1 TO1 hB1
        have hT3 : TT now3 nl nt own2 (upd TO1 t (nI (selL l s n).length)) Tp := STf_TT hT h16 ht (by omega) hslen hslv hag hag2 hag3 c2 (by rw [pk_us]) (fun a ha => by rw [pk_un ha]; exact hB2 a ha) c3
        have hag' : ∀ k, (k < 264 ∨ 308 ≤ k) → now3 k = now k := fun k hk => hag k (by omega) (by omega)
        have hL3 : LL now3 ns nl Lf Lh Li Lk LK LN LY := LL_c (fun k h1 h2 => hag' k (by omega)) hL
        have hM3 : MN now3 ns nt nm Mf := MN_c h8 (fun k h1 h2 => hag' k (by omega)) hM
        obtain ⟨goals2, t2, x1⟩ := c_exp hL3.1 hL3.2.1 hT3 hM3 h8 h4 goals t1
        obtain ⟨mn2, sz2, mk2, ch2, ss2, isE2, led2, line2, made2, row2, some2, word2, x2⟩ := m_exp hL3.1 hT3.1 hM3 h8 h4 ((hag' 0 (by omega)).trans n0) ((hag' 2 (by omega)).trans n2) ((hag' 3 (by omega)).trans n3) mn sz mk ch ss isE led line made row some1 word
        have hB2' : ∀ a, a ≠ t → upd TO1 t (nI (selL l s n).length) a = TO a := fun a ha => by rw [pk_un ha]; exact hB2 a ha
        rw [c1, b2_s, x1, b3_s, x2, b13_s]
        by_cases cd : nI (exN Mf now3 ns nm most) < due
        · rw [if_pos cd, if_pos cd, lt_e, nI_1]
          exact ih (s + 1) best goals2 t2 own2 _ mn2 sz2 mk2 ch2 ss2 isE2 led2 line2 made2 now3 row2 some2 word2 (by omega) (by omega) hbest c2 hB2' hag
        · rw [if_neg cd, if_neg cd, lt_e, nI_1]
          exact ih (s + 1) s goals2 t2 own2 _ mn2 sz2 mk2 ch2 ss2 isE2 led2 line2 made2 now3 row2 some2 word2 (by omega) (by omega) (by omega) c2 hB2' hag
end FW2
set_option maxHeartbeats 1000000 in
theorem sim_few : Sim_few Rel := by
  intro wc ak fi kwd kou kga klc klt klw kLc kLf kLh kLi kLk kLK kLN kLY kMc kMf kSc kSr kSk kSn kSy kTc kTo kTO kTp wd ou ga lc lt lw Lc Lf Lh Li Lk LK LN LY Mc Mf Sc Sr Sk Sn Sy Tc To TO Tp wt f_goals f_seats f_standingLaws tch isK wts mfi now mkept mwt m_many m_size m_makes m_changes m_someSize m_isExplained m_ledTo m_line m_made m_own m_places m_row m_some m_word z0 z1 hR
  obtain ⟨hW, hK, hF, hS⟩ := hR
  subst hF
  have hS0 := hS
  obtain ⟨ns, nl, nt, nm, hC, hSn, hL, hT, hM, ⟨r, hw⟩, hO, hLt, hG⟩ := hS
  obtain ⟨n0, n1, n2, n3, rfl, rfl, rfl, rfl, bb0, bb1, bb2, bb3⟩ := hC
  have ear : F_X10_isArranged z1 = F_X11_in z1 0 3 := rfl
  rcases ix_c z0 (n := nt) (by omega) with h | ⟨t, ht, rfl⟩
  · iterate 24 apply Exists.intro
    refine ⟨?e1, ?e2, hW, hK, ?e5, ?e3⟩
    case e1 => unfold F_X10_few F_X10_few_0 F_X10_few_21; rw [has7, has_no h]; rfl
    case e2 => unfold F_X11_few F_X11_few_0 F_X11_few_17; rw [is2_no n2 (by omega) h]; rfl
    case e5 => rfl
    case e3 => exact hS0
  · rcases in_c z1 0 3 with ⟨h1, h2⟩ | ⟨h1, h2, h3⟩
    · iterate 24 apply Exists.intro
      refine ⟨?e1, ?e2, hW, hK, ?e5, ?e3⟩
      case e1 => unfold F_X10_few F_X10_few_0 F_X10_few_21; rw [has7, has_yes (by omega) ht, b1_s, if_neg (by decide), ear, h1]; rfl
      case e2 => unfold F_X11_few F_X11_few_0 F_X11_few_17; rw [is2_yes n2 (by omega) ht, b1_s, if_neg (by decide), h1]; rfl
      case e5 => rfl
      case e3 => exact hS0
    · obtain ⟨most, hmost, rfl⟩ := in_n (b := 3) (m := 3) rfl (by decide) h2 h3
      obtain ⟨n, c1, c2, c3, c4, c5, c6⟩ := TT_at hT ht
      have e264 : (264 : Int32) + nI t = nI (264 + t) := nI_add 264 t
      by_cases cn : n ≤ 4
      · have cn' : nI n ≤ 4 := nI_le (b := 4) cn (by decide)
        have hTo : ∀ j, j < n → To t j = nI ((ow now t).getD j 0) := fun j hj => (hT.2 t ht).2.2 j (by omega)
        have hno : ∀ j, j < n → now (272 + 6 * t + j) = nI ((ow now t).getD j 0) := fun j hj => (ow_at hT.1 ht (by omega)).1
        have hlv : ∀ j, j < n → (ow now t).getD j 0 < nl := fun j hj => (ow_at hT.1 ht (by omega)).2
        have hpos : 0 < 2 ^ n := Nat.two_pow_pos n
        have hpow : 2 ^ n ≤ 16 := (Nat.pow_le_pow_right (by decide) cn : 2 ^ n ≤ 2 ^ 4)
        have esh : (1 : Int32) <<< (nI n &&& 31) = nI (2 ^ n) := sh1 (by omega)
        have esh1 : nI (2 ^ n) - 1 = nI (2 ^ n - 1) := by rw [show (1 : Int32) = nI 1 from rfl, pk_sub (by omega)]
        obtain ⟨seats', stl', a1, a2⟩ := c_noteL (t := t) (show t < 6 by omega) cn hTo fu_ 0 f_seats f_standingLaws (Nat.zero_le _) (by unfold fu_; omega) (fun j h => absurd h (Nat.not_lt_zero j))
        obtain ⟨own', places', d1, d2⟩ := m_noteL (t := t) (show t < 6 by omega) cn c2 hno fu_ 0 m_own m_places (Nat.zero_le _) (by unfold fu_; omega) (fun j h => absurd h (Nat.not_lt_zero j))
        obtain ⟨goals1, tch1, x1⟩ := c_exp hL.1 hL.2.1 hT hM bb3 (show most ≤ 4 by omega) f_goals tch
        obtain ⟨mn1, sz1, mk1, ch1, ss1, isE1, led1, line1, made1, row1, some1, word1, x2⟩ := m_exp hL.1 hT.1 hM bb3 (show most ≤ 4 by omega) n0 n2 n3 m_many m_size m_makes m_changes m_someSize m_isExplained m_ledTo m_line m_made m_row m_some m_word
        obtain ⟨v, goals2, t2, To2, TO2, mn2, sz2, mk2, ch2, ss2, isE2, led2, line2, made2, now2, row2, some2, word2, l1, l2, l3, l4⟩ := few_loop (l := ow now t) (stl := stl') (own := own') (seats := seats') (places := places') hL hT hM bb3 (show most ≤ 4 by omega) n0 n2 n3 ht cn c5 hlv (fun j hj => (a2 j hj).1) (fun j hj => (d2 j hj).1) fi (nI (exN Mf now ns nm most)) fu_ 0 (2 ^ n - 1) goals1 tch1 To TO mn1 sz1 mk1 ch1 ss1 isE1 led1 line1 made1 now row1 some1 word1 (Nat.zero_le _) (by unfold fu_; omega) (Nat.le_refl _) (fun _ _ => rfl) (fun _ _ => rfl) (fun _ _ _ => rfl)
        iterate 24 apply Exists.intro
        refine ⟨?e1, ?e2, hW, hK, ?e5, ns, nl, nt, nm, ⟨(l3 0 (by omega)).trans n0, (l3 1 (by omega)).trans n1, (l3 2 (by omega)).trans n2, (l3 3 (by omega)).trans n3, rfl, rfl, rfl, rfl, bb0, bb1, bb2, bb3⟩, SN_c bb0 (fun i h4 h5 => l3 i (by omega)) hSn, LL_c (fun i h4 h5 => l3 i (by omega)) hL, l4, MN_c bb3 (fun i h4 h5 => l3 i (by omega)) hM, ⟨r, WDr_c (l3 4 (by omega)) (fun i h4 h5 => l3 i (by omega)) hw⟩, OC_c (l3 7 (by omega)) (fun i h4 h5 => l3 i (by omega)) hO, LT_c (l3 5 (by omega)) (fun i h4 h5 => l3 i (by omega)) hLt, GP_c (l3 6 (by omega)) hG⟩
        case e1 =>
          unfold F_X10_few F_X10_few_0 F_X0_fewest F_X0_fewest_0 F_X0_noteStandingLaws F_X0_noteStandingLaws_0
          rw [has7, has_yes (by omega) ht, b1_s, if_neg (by decide), ear, h1, b1_s, if_neg (by decide), ck_ok rfl (show t < 6 by omega) (by decide), nI_clamp (n := t) (by omega), c3, if_pos cn', ck_ok rfl (show t < 6 by omega) (by decide), lt_e, lt_e, esh, esh1, x1, b3_s, show (0 : Int32) = nI 0 from rfl, a1, b2_s, l1]
          rfl
        case e2 =>
          unfold F_X11_few F_X11_few_0 F_X11_takeOwn F_X11_takeOwn_0
          rw [is2_yes n2 (by omega) ht, b1_s, if_neg (by decide), h1, b1_s, if_neg (by decide), e264, ck_ok rfl (show 264 + t < 1600 by omega) (by decide), lt_e, nI_clamp (n := 264 + t) (by omega), c2, if_pos cn', show (0 : Int32) = nI 0 from rfl, d1, b2_s, x2, b13_s, lt_e, esh, esh1]
          exact l2
        case e5 => rfl
      · have cn' : ¬ nI n ≤ 4 := nI_ge (a := 4) (b := n) (by omega) (by omega)
        iterate 24 apply Exists.intro
        refine ⟨?e1, ?e2, hW, hK, ?e5, ?e3⟩
        case e1 => unfold F_X10_few F_X10_few_0; rw [has7, has_yes (by omega) ht, b1_s, if_neg (by decide), ear, h1, b1_s, if_neg (by decide), ck_ok rfl (show t < 6 by omega) (by decide), nI_clamp (n := t) (by omega), c3, if_neg cn']; rfl
        case e2 => unfold F_X11_few F_X11_few_0; rw [is2_yes n2 (by omega) ht, b1_s, if_neg (by decide), h1, b1_s, if_neg (by decide), e264, ck_ok rfl (show 264 + t < 1600 by omega) (by decide), lt_e, nI_clamp (n := 264 + t) (by omega), c2, if_neg cn']; rfl
        case e5 => rfl
        case e3 => exact hS0
