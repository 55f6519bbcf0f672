/-! meaning, tongue, give, swap -/
theorem ur_s {β : Type} {g : Nat → β} {i : Nat} {f : β} : ur_ g i f i = f := if_pos rfl
theorem ur_n {β : Type} {g : Nat → β} {i j : Nat} {f : β} (h : j ≠ i) : ur_ g i f j = g j := if_neg h
theorem ow_len' {now : Nat → Int32} {t c : Nat} (h : now (264 + t) = nI c) (hc : c ≤ 6) : (ow now t).length = c := by
  unfold ow
  rw [List.length_map, List.length_range, gn_of h (by omega)]
theorem TT_mk {now : Nat → Int32} {nt nl : Nat} {To : Nat → Nat → Int32} {TO Tp : Nat → Int32} (hI : TI now nt nl) (h : ∀ t, t < nt → Tp t = now (256 + t) ∧ TO t = now (264 + t) ∧ ∀ k, k < gn now (264 + t) → To t k = now (272 + 6 * t + k)) : TT now nl nt To TO Tp := by
  refine ⟨hI, fun t ht => ?_⟩
  obtain ⟨h1, h2, h3⟩ := h t ht
  obtain ⟨-, c, c1, c2, c3⟩ := hI.2 t ht
  refine ⟨h1, h2, fun k hk => ?_⟩
  have hl := ow_len' c2 c1
  rw [h3 k (by rw [gn_of c2 (by omega)]; omega)]
  exact (ow_at hI ht hk).1
theorem TT_at {now : Nat → Int32} {nt nl : Nat} {To : Nat → Nat → Int32} {TO Tp : Nat → Int32} (h : TT now nl nt To TO Tp) {t : Nat} (ht : t < nt) : ∃ c, c ≤ 6 ∧ now (264 + t) = nI c ∧ TO t = nI c ∧ Tp t = now (256 + t) ∧ (ow now t).length = c ∧ ∀ k, k < c → ∃ a, a < nl ∧ a < 16 ∧ now (272 + 6 * t + k) = nI a ∧ To t k = nI a := by
  obtain ⟨-, c, c1, c2, c3⟩ := h.1.2 t ht
  obtain ⟨d1, d2, d3⟩ := h.2 t ht
  have hl := ow_len' c2 c1
  refine ⟨c, c1, c2, d2.trans c2, d1, hl, fun k hk => ?_⟩
  obtain ⟨a, a1, a2, a3⟩ := c3 k hk
  refine ⟨a, a1, a2, a3, ?_⟩
  rw [d3 k (by omega), ← (ow_at h.1 ht (by omega)).1, a3]
theorem c_maddL {m : Nat} (hm : m < 8) (cnt : Int32) (f0 : Nat → Nat → Int64) (fuel : Nat) : ∀ (i : Nat) (f : Nat → Nat → Int64), i ≤ 6 → 6 - i < fuel → (∀ a, a ≠ m → f a = f0 a) → (∀ t, t < i → f m t = 0) → ∃ f', F_X2_add_7L (nI m) fuel (nI i) cnt f = some (nI m, cnt + 1, f') ∧ (∀ a, a ≠ m → f' a = f0 a) ∧ ∀ t, t < 6 → f' m t = 0 := by
  induction fuel with
  | zero => intro i f _ h; exact absurd h (Nat.not_lt_zero _)
  | succ fuel ih =>
    intro i f hi hf h1 h2
    have e0 : F_X2_add_7L (nI m) (fuel + 1) (nI i) cnt f = F_X2_add_7 (F_X2_add_7L (nI m) fuel) (nI m) (nI i) cnt f := rfl
    rw [e0]
    unfold F_X2_add_7
    by_cases c : i = 6
    · subst c
      rw [if_pos (show (6 : Int32) ≤ nI 6 from nI_le (Nat.le_refl 6) (by omega)), lt_e]
      exact ⟨f, rfl, h1, h2⟩
    · rw [if_neg (show ¬ (6 : Int32) ≤ nI i from nI_ge (a := i) (b := 6) (by omega) (by decide)), ck_ok rfl hm (by decide), ck_ok rfl (show i < 6 by omega) (by decide), lt_e, lt_e, nI_1, nI_clamp (n := m) (by omega), nI_clamp (n := i) (by omega)]
      refine ih (i + 1) _ (by omega) (by omega) (fun a ha => ?_) (fun t ht => ?_)
      · rw [ur_n ha]; exact h1 a ha
      · rw [ur_s]
        by_cases c2 : t = i
        · subst c2; exact pk_uLs
        · rw [pk_uLn c2]; exact h2 t (by omega)
theorem m_maddL {m : Nat} (hm : m < 8) (fi : Int32) (now0 : Nat → Int32) (fuel : Nat) : ∀ (i : Nat) (now : Nat → Int32), i ≤ 6 → 6 - i < fuel → (∀ k, (k < 320 + 6 * m ∨ 326 + 6 * m ≤ k) → now k = now0 k) → (∀ t, t < i → now (320 + 6 * m + t) = 0) → ∃ now', F_X11_meaning_22L (nI m) fi fuel (nI i) now = some (nI m, fi, now') ∧ (∀ k, k ≠ 3 ∧ (k < 320 + 6 * m ∨ 326 + 6 * m ≤ k) → now' k = now0 k) ∧ now' 3 = nI (m + 1) ∧ ∀ t, t < 6 → now' (320 + 6 * m + t) = 0 := by
  induction fuel with
  | zero => intro i now _ h; exact absurd h (Nat.not_lt_zero _)
  | succ fuel ih =>
    intro i now hi hf h1 h2
    have e0 : F_X11_meaning_22L (nI m) fi (fuel + 1) (nI i) now = F_X11_meaning_22 (F_X11_meaning_22L (nI m) fi fuel) (nI m) (nI i) fi now := rfl
    rw [e0]
    unfold F_X11_meaning_22
    by_cases c : i = 6
    · subst c
      rw [if_pos (show (6 : Int32) ≤ nI 6 from nI_le (Nat.le_refl 6) (by omega)), ck_lit (i := 3) (n := 1600) (by decide), lt_e, nI_1, show (3 : Int32).toNatClampNeg = 3 by decide]
      exact ⟨_, rfl, fun k hk => by rw [pk_un hk.1]; exact h1 k hk.2, pk_us, fun t ht => by rw [pk_un (by omega)]; exact h2 t ht⟩
    · have e3 : ((320 : Int32) + (6 : Int32) * nI m) + nI i = nI (320 + 6 * m + i) := by
        rw [show (320 : Int32) = nI 320 from rfl, show (6 : Int32) = nI 6 from rfl, pk_mul, nI_add, nI_add]
      rw [if_neg (show ¬ (6 : Int32) ≤ nI i from nI_ge (a := i) (b := 6) (by omega) (by decide)), e3, ck_ok rfl (show 320 + 6 * m + i < 1600 by omega) (by decide), lt_e, lt_e, nI_1, nI_clamp (n := 320 + 6 * m + i) (by omega)]
      refine ih (i + 1) _ (by omega) (by omega) (fun k hk => ?_) (fun t ht => ?_)
      · rw [pk_un (by omega)]; exact h1 k hk
      · by_cases c2 : t = i
        · subst c2; exact pk_us
        · rw [pk_un (by omega)]; exact h2 t (by omega)
set_option maxHeartbeats 1000000 in
theorem sim_meaning : Sim_meaning Rel := by
  intro wc ak fi kwd kou kga klc klt klw kLc kLf kLh kLi kLk kLK kLN kLY kMc kMf kSc kSr kSk kSn kSy kTc kTo kTO kTp wd ou ga lc lt lw Lc Lf Lh Li Lk LK LN LY Mc Mf Sc Sr Sk Sn Sy Tc To TO Tp wt isK wts mfi now mkept mwt hR
  obtain ⟨hW, hK, hF, hS⟩ := hR
  subst hF
  have hS0 := hS
  obtain ⟨ns, nl, nt, nm, hC, hSn, hL, hT, hM, ⟨r, hw⟩, hO, hLt, hG⟩ := hS
  obtain ⟨n0, n1, n2, n3, rfl, rfl, rfl, rfl, bb0, bb1, bb2, bb3⟩ := hC
  have e3 : (3 : Int32).toNatClampNeg = 3 := by decide
  by_cases c : nm = 8
  · subst c
    iterate 6 apply Exists.intro
    refine ⟨?e1, ?e2, hW, hK, ?e5, ?e3⟩
    case e1 => unfold F_X10_meaning F_X10_meaning_0; rfl
    case e2 => unfold F_X11_meaning F_X11_meaning_0; rw [e3, n3]; rfl
    case e5 => rfl
    case e3 => exact hS0
  · have hc : ¬ nI nm = 8 := fun q => c ((e8_ (by omega)).mp q)
    obtain ⟨f', c1, c2, c3⟩ := c_maddL (m := nm) (by omega) (nI nm) Mf fu_ 0 Mf (Nat.zero_le _) (by unfold fu_; omega) (fun _ _ => rfl) (fun q hq => absurd hq (Nat.not_lt_zero q))
    obtain ⟨now', d1, d2, d3, d4⟩ := m_maddL (m := nm) (by omega) fi now fu_ 0 now (Nat.zero_le _) (by unfold fu_; omega) (fun _ _ => rfl) (fun q hq => absurd hq (Nat.not_lt_zero q))
    have hM' : MN now' ns nt (nm + 1) f' := by
      intro m hm t ht
      by_cases cm : m = nm
      · subst cm
        exact Or.inl ⟨c3 t ht, fun _ => d4 t ht⟩
      · rw [c2 m cm, d2 (320 + 6 * m + t) (by omega)]
        rcases hM m (by omega) t ht with h1 | ⟨h1, q, q1, q2, q3, q4, q5⟩
        · exact Or.inl h1
        · refine Or.inr ⟨h1, q, q1, q2, q3, q4, arr_of q5 (fun i hi => ?_)⟩
          rw [List.length_reverse] at hi
          exact d2 _ (by omega)
    refine ⟨nI nm, fi, nI nm + 1, f', fi, now', ?e1, ?e2, hW, hK, rfl, ns, nl, nt, nm + 1, ⟨(d2 0 (by omega)).trans n0, (d2 1 (by omega)).trans n1, (d2 2 (by omega)).trans n2, d3, rfl, rfl, rfl, nI_1 nm, bb0, bb1, bb2, by omega⟩, SN_c bb0 (fun i h4 h5 => d2 i (by omega)) hSn, LL_c (fun i h4 h5 => d2 i (by omega)) hL, TT_c (fun i h4 h5 => d2 i (by omega)) hT, hM', ⟨r, WDr_c (d2 4 (by omega)) (fun i h4 h5 => d2 i (by omega)) hw⟩, OC_c (d2 7 (by omega)) (fun i h4 h5 => d2 i (by omega)) hO, LT_c (d2 5 (by omega)) (fun i h4 h5 => d2 i (by omega)) hLt, GP_c (d2 6 (by omega)) hG⟩
    case e1 =>
      unfold F_X10_meaning F_X10_meaning_0 F_X2_add F_X2_add_0
      rw [if_neg hc]
      exact (show bn3_ (F_X2_add_7L (nI nm) fu_ (nI 0) (nI nm) Mf) _ = _ by rw [c1]; rfl)
    case e2 =>
      unfold F_X11_meaning F_X11_meaning_0
      rw [e3, n3, ck_lit (i := 3) (n := 1600) (by decide), lt_e, if_neg hc]
      exact d1
theorem m_tongL {n : Nat} (hn : n < 6) (fi : Int32) (now0 : Nat → Int32) (fuel : Nat) : ∀ (i : Nat) (now : Nat → Int32), i ≤ 8 → 8 - i < fuel → (∀ k, (∀ m, m < 8 → k ≠ 320 + 6 * m + n) → now k = now0 k) → (∀ m, m < i → now (320 + 6 * m + n) = 0) → ∃ now', F_X11_tongue_72L (nI n) fi fuel (nI i) now = some (nI n, fi, now') ∧ (∀ k, (∀ m, m < 8 → k ≠ 320 + 6 * m + n) → now' k = now0 k) ∧ ∀ m, m < 8 → now' (320 + 6 * m + n) = 0 := by
  induction fuel with
  | zero => intro i now _ h; exact absurd h (Nat.not_lt_zero _)
  | succ fuel ih =>
    intro i now hi hf h1 h2
    have e0 : F_X11_tongue_72L (nI n) fi (fuel + 1) (nI i) now = F_X11_tongue_72 (F_X11_tongue_72L (nI n) fi fuel) (nI n) (nI i) fi now := rfl
    rw [e0]
    unfold F_X11_tongue_72
    by_cases c : i = 8
    · subst c
      rw [if_pos (show (8 : Int32) ≤ nI 8 from nI_le (Nat.le_refl 8) (by omega))]
      exact ⟨_, rfl, h1, h2⟩
    · have e3 : ((320 : Int32) + (6 : Int32) * nI i) + nI n = nI (320 + 6 * i + n) := by
        rw [show (320 : Int32) = nI 320 from rfl, show (6 : Int32) = nI 6 from rfl, pk_mul, nI_add, nI_add]
      rw [if_neg (show ¬ (8 : Int32) ≤ nI i from nI_ge (a := i) (b := 8) (by omega) (by decide)), e3, ck_ok rfl (show 320 + 6 * i + n < 1600 by omega) (by decide), lt_e, lt_e, nI_1, nI_clamp (n := 320 + 6 * i + n) (by omega)]
      refine ih (i + 1) _ (by omega) (by omega) (fun k hk => ?_) (fun m hm => ?_)
      · rw [pk_un (hk i (by omega))]; exact h1 k hk
      · by_cases c2 : m = i
        · subst c2; exact pk_us
        · rw [pk_un (by omega)]; exact h2 m (by omega)
set_option maxHeartbeats 1000000 in
theorem sim_tongue : Sim_tongue Rel := by
  intro wc ak fi kwd kou kga klc klt klw kLc kLf kLh kLi kLk kLK kLN kLY kMc kMf kSc kSr kSk kSn kSy kTc kTo kTO kTp wd ou ga lc lt lw Lc Lf Lh Li Lk LK LN LY Mc Mf Sc Sr Sk Sn Sy Tc To TO Tp wt isK wts mfi now mkept mwt z0 hR
  obtain ⟨hW, hK, hF, hS⟩ := hR
  subst hF
  have hS0 := hS
  obtain ⟨ns, nl, nt, nm, hC, hSn, hL, hT, hM, ⟨r, hw⟩, hO, hLt, hG⟩ := hS
  obtain ⟨n0, n1, n2, n3, rfl, rfl, rfl, rfl, bb0, bb1, bb2, bb3⟩ := hC
  have e2 : (2 : Int32).toNatClampNeg = 2 := by decide
  have key : (F_X10_tongue z0 fi (nI nt) TO Tp = some (-1, fi + 1, nI nt, TO, Tp) ∧ F_X11_tongue z0 fi now = some (-1, fi + 1, now)) ∨ (F_X10_tongue z0 fi (nI nt) TO Tp = F_X10_tongue_25 z0 fi (nI nt) TO Tp ∧ F_X11_tongue z0 fi now = F_X11_tongue_19 z0 fi now ∧ (z0 = -1 ∨ ∃ p, p < nt ∧ z0 = nI p)) := by
    by_cases c : z0 = -1
    · refine Or.inr ⟨?_, ?_, Or.inl c⟩
      · unfold F_X10_tongue F_X10_tongue_0; rw [if_pos c]
      · unfold F_X11_tongue F_X11_tongue_0; rw [if_pos c]
    · rcases ix_c z0 (n := nt) (by omega) with h | ⟨j, hj, rfl⟩
      · refine Or.inl ⟨?_, ?_⟩
        · unfold F_X10_tongue F_X10_tongue_0; rw [if_neg c, has7, has_no h]; rfl
        · unfold F_X11_tongue F_X11_tongue_0; rw [if_neg c, is2_no n2 (by omega) h]; rfl
      · refine Or.inr ⟨?_, ?_, Or.inr ⟨j, hj, rfl⟩⟩
        · unfold F_X10_tongue F_X10_tongue_0; rw [if_neg c, has7, has_yes (by omega) hj, b1_s, if_neg (by decide)]
        · unfold F_X11_tongue F_X11_tongue_0; rw [if_neg c, is2_yes n2 (by omega) hj, b1_s, if_neg (by decide)]
  rcases key with ⟨k1, k2⟩ | ⟨k1, k2, k3⟩
  · exact ⟨_, _, _, _, _, _, _, k1, k2, hW, hK, rfl, hS0⟩
  · by_cases c : nt = 6
    · subst c
      iterate 7 apply Exists.intro
      refine ⟨?e1, ?e2, hW, hK, ?e5, ?e3⟩
      case e1 => rw [k1]; rfl
      case e2 => rw [k2]; unfold F_X11_tongue_19; rw [e2, n2]; rfl
      case e5 => rfl
      case e3 => exact hS0
    · have hc : ¬ nI nt = 6 := fun q => c ((e6_ (by omega)).mp q)
      have e256 : (256 : Int32) + nI nt = nI (256 + nt) := nI_add 256 nt
      have e264 : (264 : Int32) + nI nt = nI (264 + nt) := nI_add 264 nt
      obtain ⟨now', d1, d2, d3⟩ := m_tongL (n := nt) (by omega) fi (upd (upd (upd now (256 + nt) z0) (264 + nt) 0) 2 (nI (nt + 1))) fu_ 0 (upd (upd (upd now (256 + nt) z0) (264 + nt) 0) 2 (nI (nt + 1))) (Nat.zero_le _) (by unfold fu_; omega) (fun _ _ => rfl) (fun q hq => absurd hq (Nat.not_lt_zero q))
      have hn : ∀ i, i ≠ 2 ∧ i ≠ 256 + nt ∧ i ≠ 264 + nt ∧ (i < 320 ∨ 368 ≤ i) → now' i = now i := fun i hi => by
        rw [d2 i (fun m hm => by omega), pk_un hi.1, pk_un hi.2.2.1, pk_un hi.2.1]
      have hm : ∀ m t, m < 8 → t < 6 → t ≠ nt → now' (320 + 6 * m + t) = now (320 + 6 * m + t) := fun m t hm ht htn => by
        rw [d2 _ (fun m' hm' => by omega), pk_un (by omega), pk_un (by omega), pk_un (by omega)]
      have h2 : now' 2 = nI (nt + 1) := by rw [d2 _ (fun m' hm' => by omega), pk_us]
      have hp : now' (256 + nt) = z0 := by rw [d2 _ (fun m' hm' => by omega), pk_un (by omega), pk_un (by omega), pk_us]
      have ho : now' (264 + nt) = 0 := by rw [d2 _ (fun m' hm' => by omega), pk_un (by omega), pk_us]
      have hI' : TI now' (nt + 1) nl := by
        refine ⟨by omega, fun t ht => ?_⟩
        by_cases ct : t = nt
        · subst ct
          refine ⟨?_, 0, by omega, ho, fun k hk => absurd hk (Nat.not_lt_zero k)⟩
          rw [hp]
          exact k3
        · obtain ⟨a1, cc, c1, c2, c3⟩ := hT.1.2 t (by omega)
          rw [hn (256 + t) (by omega), hn (264 + t) (by omega)]
          exact ⟨a1, cc, c1, c2, fun k hk => by rw [hn (272 + 6 * t + k) (by omega)]; exact c3 k hk⟩
      have hT' : TT now' nl (nt + 1) To (upd TO nt 0) (upd Tp nt z0) := by
        refine TT_mk hI' (fun t ht => ?_)
        by_cases ct : t = nt
        · subst ct
          rw [pk_us, pk_us, hp, ho]
          refine ⟨rfl, rfl, fun k hk => ?_⟩
          have : gn now' (264 + t) = 0 := gn_of (n := 0) ho (by decide)
          omega
        · obtain ⟨cc, c1, c2, c3, c4, c5, c6⟩ := TT_at hT (show t < nt by omega)
          rw [pk_un ct, pk_un ct, hn (256 + t) (by omega), hn (264 + t) (by omega)]
          refine ⟨c4, c3.trans c2.symm, fun k hk => ?_⟩
          rw [gn_of ((hn (264 + t) (by omega)).trans c2) (by omega)] at hk
          obtain ⟨a, a1, a2, a3, a4⟩ := c6 k hk
          rw [hn (272 + 6 * t + k) (by omega), a3, a4]
      have hM' : MN now' ns (nt + 1) nm Mf := by
        intro m hm1 t ht
        by_cases ct : t = nt
        · subst ct
          rcases hM m hm1 t ht with h1 | h1
          · exact Or.inl ⟨h1.1, fun _ => d3 m (by omega)⟩
          · omega
        · rcases hM m hm1 t ht with h1 | ⟨h1, q, q1, q2, q3, q4, q5⟩
          · exact Or.inl ⟨h1.1, fun h3 => by rw [hm m t (by omega) ht ct]; exact h1.2 (by omega)⟩
          · refine Or.inr ⟨by omega, q, q1, q2, q3, by rw [hm m t (by omega) ht ct]; exact q4, arr_of q5 (fun i hi => ?_)⟩
            rw [List.length_reverse] at hi
            exact hn _ (by omega)
      refine ⟨nI nt, fi, nI nt + 1, upd TO nt 0, upd Tp nt z0, fi, now', ?e1, ?e2, hW, hK, rfl, ns, nl, nt + 1, nm, ⟨(hn 0 (by omega)).trans n0, (hn 1 (by omega)).trans n1, h2, (hn 3 (by omega)).trans n3, rfl, rfl, nI_1 nt, rfl, bb0, bb1, by omega, bb3⟩, SN_c bb0 (fun i h4 h5 => hn i (by omega)) hSn, LL_c (fun i h4 h5 => hn i (by omega)) hL, hT', hM', ⟨r, WDr_c (hn 4 (by omega)) (fun i h4 h5 => hn i (by omega)) hw⟩, OC_c (hn 7 (by omega)) (fun i h4 h5 => hn i (by omega)) hO, LT_c (hn 5 (by omega)) (fun i h4 h5 => hn i (by omega)) hLt, GP_c (hn 6 (by omega)) hG⟩
      case e1 =>
        rw [k1]
        unfold F_X10_tongue_25 F_X7_add F_X7_add_0
        rw [if_neg hc, ck_ok rfl (show nt < 6 by omega) (by decide), lt_e, ck_ok rfl (show nt < 6 by omega) (by decide), lt_e, lt_e, nI_clamp (n := nt) (by omega)]
        rfl
      case e2 =>
        rw [k2]
        unfold F_X11_tongue_19
        rw [e2, n2, ck_lit (i := 2) (n := 1600) (by decide), lt_e, if_neg hc, e256, e264, ck_ok rfl (show 256 + nt < 1600 by omega) (by decide), lt_e, ck_ok rfl (show 264 + nt < 1600 by omega) (by decide), lt_e, ck_lit (i := 2) (n := 1600) (by decide), lt_e, nI_1, nI_clamp (n := 256 + nt) (by omega), nI_clamp (n := 264 + nt) (by omega)]
        exact d1
set_option maxHeartbeats 1000000 in
theorem sim_give : Sim_give Rel := by
  intro wc ak fi kwd kou kga klc klt klw kLc kLf kLh kLi kLk kLK kLN kLY kMc kMf kSc kSr kSk kSn kSy kTc kTo kTO kTp wd ou ga lc lt lw Lc Lf Lh Li Lk LK LN LY Mc Mf Sc Sr Sk Sn Sy Tc To TO Tp wt isK wts mfi now mkept mwt z0 z1 hR
  obtain ⟨hW, hK, hF, hS⟩ := hR
  subst hF
  have hS0 := hS
  obtain ⟨ns, nl, nt, nm, hC, hSn, hL, hT, hM, ⟨r, hw⟩, hO, hLt, hG⟩ := hS
  obtain ⟨n0, n1, n2, n3, rfl, rfl, rfl, rfl, bb0, bb1, bb2, bb3⟩ := hC
  rcases ix_c z0 (n := nt) (by omega) with h | ⟨j, hj, rfl⟩
  · iterate 6 apply Exists.intro
    refine ⟨?e1, ?e2, hW, hK, ?e5, ?e3⟩
    case e1 => unfold F_X10_give F_X10_give_0 F_X10_give_28; rw [has7, has_no h]; rfl
    case e2 => unfold F_X11_give F_X11_give_0 F_X11_give_16; rw [is2_no n2 (by omega) h]; rfl
    case e5 => rfl
    case e3 => exact hS0
  · rcases ix_c z1 (n := nl) (by omega) with h | ⟨l, hl, rfl⟩
    · iterate 6 apply Exists.intro
      refine ⟨?e1, ?e2, hW, hK, ?e5, ?e3⟩
      case e1 => unfold F_X10_give F_X10_give_0 F_X10_give_28; rw [has7, has_yes (by omega) hj, b1_s, if_neg (by decide), has1, has_no h]; rfl
      case e2 => unfold F_X11_give F_X11_give_0 F_X11_give_16; rw [is2_yes n2 (by omega) hj, b1_s, if_neg (by decide), is1_no n1 (by omega) h]; rfl
      case e5 => rfl
      case e3 => exact hS0
    · obtain ⟨c, c1, c2, c3, c4, c5, c6⟩ := TT_at hT hj
      have e264 : (264 : Int32) + nI j = nI (264 + j) := nI_add 264 j
      have e272 : ((272 : Int32) + (6 : Int32) * nI j) + nI c = nI (272 + 6 * j + c) := by
        rw [show (272 : Int32) = nI 272 from rfl, show (6 : Int32) = nI 6 from rfl, pk_mul, nI_add, nI_add]
      by_cases cc : c = 6
      · iterate 6 apply Exists.intro
        refine ⟨?e1, ?e2, hW, hK, ?e5, ?e3⟩
        case e1 => unfold F_X10_give F_X10_give_0; rw [has7, has_yes (by omega) hj, b1_s, if_neg (by decide), has1, has_yes (by omega) hl, b1_s, if_neg (by decide), ck_ok rfl (show j < 6 by omega) (by decide), nI_clamp (n := j) (by omega), c3, cc]; rfl
        case e2 => unfold F_X11_give F_X11_give_0; rw [is2_yes n2 (by omega) hj, b1_s, if_neg (by decide), is1_yes n1 (by omega) hl, b1_s, if_neg (by decide), e264, ck_ok rfl (show 264 + j < 1600 by omega) (by decide), lt_e, nI_clamp (n := 264 + j) (by omega), c2, cc]; rfl
        case e5 => rfl
        case e3 => exact hS0
      · have hc : ¬ nI c = 6 := fun q => cc ((e6_ (by omega)).mp q)
        have hn : ∀ i, i ≠ 264 + j ∧ i ≠ 272 + 6 * j + c → upd (upd now (272 + 6 * j + c) (nI l)) (264 + j) (nI (c + 1)) i = now i := fun i hi => by rw [pk_un hi.1, pk_un hi.2]
        have h264 : upd (upd now (272 + 6 * j + c) (nI l)) (264 + j) (nI (c + 1)) (264 + j) = nI (c + 1) := pk_us
        have h272 : upd (upd now (272 + 6 * j + c) (nI l)) (264 + j) (nI (c + 1)) (272 + 6 * j + c) = nI l := by rw [pk_un (by omega), pk_us]
        generalize upd (upd now (272 + 6 * j + c) (nI l)) (264 + j) (nI (c + 1)) = now' at hn h264 h272
        have hnow : now' = upd (upd now (272 + 6 * j + c) (nI l)) (264 + j) (nI (c + 1)) := by
          funext i
          by_cases i1 : i = 264 + j
          · rw [i1, h264, pk_us]
          · rw [pk_un i1]
            by_cases i2 : i = 272 + 6 * j + c
            · rw [i2, h272, pk_us]
            · rw [pk_un i2]; exact hn i ⟨i1, i2⟩
        have hI' : TI now' nt nl := by
          refine ⟨bb2, fun t ht => ?_⟩
          obtain ⟨a1, d, d1, d2, d3⟩ := hT.1.2 t ht
          rw [hn (256 + t) (by omega)]
          by_cases ct : t = j
          · subst ct
            refine ⟨a1, c + 1, by omega, h264, fun k hk => ?_⟩
            by_cases ck : k = c
            · subst ck; exact ⟨l, hl, by omega, h272⟩
            · obtain ⟨a, p1, p2, p3, p4⟩ := c6 k (by omega)
              exact ⟨a, p1, p2, (hn _ (by omega)).trans p3⟩
          · refine ⟨a1, d, d1, (hn _ (by omega)).trans d2, fun k hk => ?_⟩
            rw [hn (272 + 6 * t + k) (by omega)]
            exact d3 k hk
        have hT' : TT now' nl nt (ur_ To j (upd (To j) c (nI l))) (upd TO j (nI (c + 1))) Tp := by
          refine TT_mk hI' (fun t ht => ?_)
          obtain ⟨d, d1, d2, d3, d4, d5, d6⟩ := TT_at hT ht
          rw [hn (256 + t) (by omega)]
          by_cases ct : t = j
          · subst ct
            rw [pk_us, ur_s, h264]
            refine ⟨d4, rfl, fun k hk => ?_⟩
            rw [gn_of h264 (by omega)] at hk
            by_cases ck : k = c
            · subst ck; rw [pk_us, h272]
            · obtain ⟨a, p1, p2, p3, p4⟩ := c6 k (by omega)
              rw [pk_un ck, hn _ (by omega), p3, p4]
          · rw [pk_un ct, ur_n ct, hn (264 + t) (by omega)]
            refine ⟨d4, d3.trans d2.symm, fun k hk => ?_⟩
            rw [gn_of ((hn (264 + t) (by omega)).trans d2) (by omega)] at hk
            obtain ⟨a, p1, p2, p3, p4⟩ := d6 k hk
            rw [hn _ (by omega), p3, p4]
        refine ⟨nI (c + 1), fi, ur_ To j (upd (To j) c (nI l)), upd TO j (nI (c + 1)), fi, now', ?e1, ?e2, hW, hK, rfl, ns, nl, nt, nm, ⟨(hn 0 (by omega)).trans n0, (hn 1 (by omega)).trans n1, (hn 2 (by omega)).trans n2, (hn 3 (by omega)).trans n3, rfl, rfl, rfl, rfl, bb0, bb1, bb2, bb3⟩, SN_c bb0 (fun i h4 h5 => hn i (by omega)) hSn, LL_c (fun i h4 h5 => hn i (by omega)) hL, hT', MN_c bb3 (fun i h4 h5 => hn i (by omega)) hM, ⟨r, WDr_c (hn 4 (by omega)) (fun i h4 h5 => hn i (by omega)) hw⟩, OC_c (hn 7 (by omega)) (fun i h4 h5 => hn i (by omega)) hO, LT_c (hn 5 (by omega)) (fun i h4 h5 => hn i (by omega)) hLt, GP_c (hn 6 (by omega)) hG⟩
        case e1 =>
          unfold F_X10_give F_X10_give_0 F_X7_append F_X7_append_0
          rw [has7, has_yes (by omega) hj, b1_s, if_neg (by decide), has1, has_yes (by omega) hl, b1_s, if_neg (by decide), ck_ok rfl (show j < 6 by omega) (by decide), nI_clamp (n := j) (by omega), c3, if_neg hc, ck_ok rfl (show j < 6 by omega) (by decide), ck_ok rfl (show j < 6 by omega) (by decide), ck_ok rfl (show c < 6 by omega) (by decide), lt_e, nI_clamp (n := c) (by omega), ck_ok rfl (show j < 6 by omega) (by decide), ck_ok rfl (show j < 6 by omega) (by decide), lt_e, ck_ok rfl (show j < 6 by omega) (by decide), nI_1, pk_us]
          rfl
        case e2 =>
          unfold F_X11_give F_X11_give_0
          rw [is2_yes n2 (by omega) hj, b1_s, if_neg (by decide), is1_yes n1 (by omega) hl, b1_s, if_neg (by decide), e264, ck_ok rfl (show 264 + j < 1600 by omega) (by decide), lt_e, nI_clamp (n := 264 + j) (by omega), c2, if_neg hc, e272, ck_ok rfl (show 272 + 6 * j + c < 1600 by omega) (by decide), lt_e, ck_ok rfl (show 264 + j < 1600 by omega) (by decide), lt_e, nI_1, nI_clamp (n := 272 + 6 * j + c) (by omega), hnow]
theorem pair_no {z0 z1 : Int32} {nt : Nat} {now TO : Nat → Int32} (hnt : nt ≤ 6) (n2 : now 2 = nI nt) (h : z0 < 0 ∨ nI nt ≤ z0) : F_X7_hasPair z0 z1 (nI nt) TO = some 0 ∧ F_X11_hasTwo z0 z1 now = some 0 := by
  refine ⟨?_, ?_⟩
  · unfold F_X7_hasPair F_X7_hasPair_0; rw [has7, has_no h]; rfl
  · unfold F_X11_hasTwo F_X11_hasTwo_0; rw [is2_no n2 (by omega) h]; rfl
theorem pair_c {j nt c : Nat} {z1 : Int32} {now TO : Nat → Int32} (hnt : nt ≤ 6) (n2 : now 2 = nI nt) (hj : j < nt) (c1 : c ≤ 6) (c2 : now (264 + j) = nI c) (c3 : TO j = nI c) : (F_X7_hasPair (nI j) z1 (nI nt) TO = some 0 ∧ F_X11_hasTwo (nI j) z1 now = some 0) ∨ (F_X7_hasPair (nI j) z1 (nI nt) TO = some 1 ∧ F_X11_hasTwo (nI j) z1 now = some 1 ∧ ∃ k, k + 1 < c ∧ z1 = nI k) := by
  have e264 : (264 : Int32) + nI j = nI (264 + j) := nI_add 264 j
  have f1 : F_X7_hasPair (nI j) z1 (nI nt) TO = if z1 < 0 then some 0 else if nI c - 1 ≤ z1 then some 0 else some 1 := by
    unfold F_X7_hasPair F_X7_hasPair_0
    rw [has7, has_yes (by omega) hj, b1_s, if_neg (by decide), ck_ok rfl (show j < 6 by omega) (by decide), nI_clamp (n := j) (by omega), c3]
  have f2 : F_X11_hasTwo (nI j) z1 now = if z1 < 0 then some 0 else if nI c - 1 ≤ z1 then some 0 else some 1 := by
    unfold F_X11_hasTwo F_X11_hasTwo_0
    rw [is2_yes n2 (by omega) hj, b1_s, if_neg (by decide), e264, ck_ok rfl (show 264 + j < 1600 by omega) (by decide), nI_clamp (n := 264 + j) (by omega), c2]
  rw [f1, f2]
  by_cases d1 : z1 < 0
  · rw [if_pos d1]; exact Or.inl ⟨rfl, rfl⟩
  · rw [if_neg d1]
    by_cases d2 : nI c - 1 ≤ z1
    · rw [if_pos d2]; exact Or.inl ⟨rfl, rfl⟩
    · rw [if_neg d2]
      refine Or.inr ⟨rfl, rfl, ?_⟩
      obtain ⟨k, hk, rfl⟩ := nI_of d1
      refine ⟨k, ?_, rfl⟩
      cases c with
      | zero =>
        exfalso
        apply d2
        rw [fa_le, nI_toInt hk]
        have e1 : (nI 0 - 1).toInt = -1 := by decide
        omega
      | succ c =>
        rw [nI_pred] at d2
        rcases Nat.lt_or_ge k c with h | h
        · omega
        · exact absurd (nI_le h (by omega)) d2
set_option maxHeartbeats 1000000 in
theorem sim_swap : Sim_swap Rel := by
  intro wc ak fi kwd kou kga klc klt klw kLc kLf kLh kLi kLk kLK kLN kLY kMc kMf kSc kSr kSk kSn kSy kTc kTo kTO kTp wd ou ga lc lt lw Lc Lf Lh Li Lk LK LN LY Mc Mf Sc Sr Sk Sn Sy Tc To TO Tp wt isK wts mfi now mkept mwt z0 z1 hR
  obtain ⟨hW, hK, hF, hS⟩ := hR
  subst hF
  have hS0 := hS
  obtain ⟨ns, nl, nt, nm, hC, hSn, hL, hT, hM, ⟨r, hw⟩, hO, hLt, hG⟩ := hS
  obtain ⟨n0, n1, n2, n3, rfl, rfl, rfl, rfl, bb0, bb1, bb2, bb3⟩ := hC
  rcases ix_c z0 (n := nt) (by omega) with h | ⟨j, hj, rfl⟩
  · obtain ⟨p1, p2⟩ := pair_no (z1 := z1) (TO := TO) bb2 n2 h
    iterate 5 apply Exists.intro
    refine ⟨?e1, ?e2, hW, hK, ?e5, ?e3⟩
    case e1 => unfold F_X10_swap F_X10_swap_0; rw [p1]; rfl
    case e2 => unfold F_X11_swap F_X11_swap_0; rw [p2]; rfl
    case e5 => rfl
    case e3 => exact hS0
  · obtain ⟨c, c1, c2, c3, c4, c5, c6⟩ := TT_at hT hj
    rcases pair_c (z1 := z1) bb2 n2 hj c1 c2 c3 with ⟨p1, p2⟩ | ⟨p1, p2, k, hk, rfl⟩
    · iterate 5 apply Exists.intro
      refine ⟨?e1, ?e2, hW, hK, ?e5, ?e3⟩
      case e1 => unfold F_X10_swap F_X10_swap_0; rw [p1]; rfl
      case e2 => unfold F_X11_swap F_X11_swap_0; rw [p2]; rfl
      case e5 => rfl
      case e3 => exact hS0
    · have e272 : ((272 : Int32) + (6 : Int32) * nI j) + nI k = nI (272 + 6 * j + k) := by
        rw [show (272 : Int32) = nI 272 from rfl, show (6 : Int32) = nI 6 from rfl, pk_mul, nI_add, nI_add]
      obtain ⟨a, a1, a2, a3, a4⟩ := c6 k (by omega)
      obtain ⟨d, d1, d2, d3, d4⟩ := c6 (k + 1) (by omega)
      have hn : ∀ i, i ≠ 272 + 6 * j + k ∧ i ≠ 272 + 6 * j + k + 1 → upd (upd now (272 + 6 * j + k) (nI d)) (272 + 6 * j + k + 1) (nI a) i = now i := fun i hi => by rw [pk_un hi.2, pk_un hi.1]
      have hx1 : upd (upd now (272 + 6 * j + k) (nI d)) (272 + 6 * j + k + 1) (nI a) (272 + 6 * j + k) = nI d := by rw [pk_un (by omega), pk_us]
      have hx2 : upd (upd now (272 + 6 * j + k) (nI d)) (272 + 6 * j + k + 1) (nI a) (272 + 6 * j + k + 1) = nI a := pk_us
      have hI' : TI (upd (upd now (272 + 6 * j + k) (nI d)) (272 + 6 * j + k + 1) (nI a)) nt nl := by
        refine ⟨bb2, fun t ht => ?_⟩
        obtain ⟨p1, e, q1, q2, q3⟩ := hT.1.2 t ht
        rw [hn (256 + t) (by omega), hn (264 + t) (by omega)]
        refine ⟨p1, e, q1, q2, fun i hi => ?_⟩
        by_cases i1 : 272 + 6 * t + i = 272 + 6 * j + k
        · rw [i1, hx1]; exact ⟨d, d1, d2, rfl⟩
        · by_cases i2 : 272 + 6 * t + i = 272 + 6 * j + k + 1
          · rw [i2, hx2]; exact ⟨a, a1, a2, rfl⟩
          · rw [hn _ ⟨i1, i2⟩]; exact q3 i hi
      have hT' : TT (upd (upd now (272 + 6 * j + k) (nI d)) (272 + 6 * j + k + 1) (nI a)) nl nt (ur_ (ur_ To j (upd (To j) k (nI d))) j (upd (upd (To j) k (nI d)) (k + 1) (nI a))) TO Tp := by
        refine TT_mk hI' (fun t ht => ?_)
        obtain ⟨e, q1, q2, q3, q4, q5, q6⟩ := TT_at hT ht
        rw [hn (256 + t) (by omega), hn (264 + t) (by omega)]
        refine ⟨q4, q3.trans q2.symm, fun i hi => ?_⟩
        rw [gn_of ((hn (264 + t) (by omega)).trans q2) (by omega)] at hi
        obtain ⟨x, x1, x2, x3, x4⟩ := q6 i hi
        by_cases ct : t = j
        · subst ct
          rw [ur_s]
          by_cases i1 : i = k
          · subst i1
            rw [pk_un (by omega), pk_us, hx1]
          · by_cases i2 : i = k + 1
            · subst i2
              rw [pk_us]
              exact hx2.symm
            · rw [pk_un i2, pk_un i1, hn _ (by omega), x3, x4]
        · rw [ur_n ct, ur_n ct, hn _ (by omega), x3, x4]
      refine ⟨0, fi, ur_ (ur_ To j (upd (To j) k (nI d))) j (upd (upd (To j) k (nI d)) (k + 1) (nI a)), fi, upd (upd now (272 + 6 * j + k) (nI d)) (272 + 6 * j + k + 1) (nI a), ?e1, ?e2, hW, hK, rfl, ns, nl, nt, nm, ⟨(hn 0 (by omega)).trans n0, (hn 1 (by omega)).trans n1, (hn 2 (by omega)).trans n2, (hn 3 (by omega)).trans n3, rfl, rfl, rfl, rfl, bb0, bb1, bb2, bb3⟩, SN_c bb0 (fun i h4 h5 => hn i (by omega)) hSn, LL_c (fun i h4 h5 => hn i (by omega)) hL, hT', MN_c bb3 (fun i h4 h5 => hn i (by omega)) hM, ⟨r, WDr_c (hn 4 (by omega)) (fun i h4 h5 => hn i (by omega)) hw⟩, OC_c (hn 7 (by omega)) (fun i h4 h5 => hn i (by omega)) hO, LT_c (hn 5 (by omega)) (fun i h4 h5 => hn i (by omega)) hLt, GP_c (hn 6 (by omega)) hG⟩
      case e1 =>
        unfold F_X10_swap F_X10_swap_0 F_X7_exchange F_X7_exchange_0
        rw [p1, b1_s, if_neg (by decide), nI_1, ck_ok rfl (show j < 6 by omega) (by decide), ck_ok rfl (show k < 6 by omega) (by decide), lt_e, ck_ok rfl (show j < 6 by omega) (by decide), ck_ok rfl (show j < 6 by omega) (by decide), ck_ok rfl (show k + 1 < 6 by omega) (by decide), ck_ok rfl (show k < 6 by omega) (by decide), lt_e, ck_ok rfl (show j < 6 by omega) (by decide), ck_ok rfl (show k + 1 < 6 by omega) (by decide), lt_e, nI_clamp (n := j) (by omega), nI_clamp (n := k) (by omega), nI_clamp (n := k + 1) (by omega), a4, d4, ur_s]
        rfl
      case e2 =>
        unfold F_X11_swap F_X11_swap_0
        rw [p2, b1_s, if_neg (by decide), lt_e, e272, nI_1, ck_ok rfl (show 272 + 6 * j + k < 1600 by omega) (by decide), lt_e, ck_ok rfl (show 272 + 6 * j + k + 1 < 1600 by omega) (by decide), ck_ok rfl (show 272 + 6 * j + k < 1600 by omega) (by decide), lt_e, ck_ok rfl (show 272 + 6 * j + k + 1 < 1600 by omega) (by decide), lt_e, nI_clamp (n := 272 + 6 * j + k) (by omega), nI_clamp (n := 272 + 6 * j + k + 1) (by omega), a3]
        exact (show some ((0 : Int32), fi, upd (upd now (272 + 6 * j + k) (now (272 + 6 * j + k + 1))) (272 + 6 * j + k + 1) (nI a)) = _ by rw [show now (272 + 6 * j + k + 1) = nI d from d3])
