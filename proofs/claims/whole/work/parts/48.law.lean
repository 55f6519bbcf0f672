/-! law, set, sound -/
theorem m_lawL {n : Nat} (hn : n < 16) (fi : Int32) (now0 : Nat → Int32) (fuel : Nat) : ∀ (i : Nat) (now : Nat → Int32), i ≤ 3 → 3 - i < fuel → (∀ k, (k < 96 + 9 * n ∨ 105 + 9 * n ≤ k) → now k = now0 k) → (∀ w, w < i → now (96 + 9 * n + 3 * w) = (if w = 0 then 0 else -2) ∧ now (96 + 9 * n + 3 * w + 1) = 0 ∧ now (96 + 9 * n + 3 * w + 2) = 0) →
    ∃ now', F_X11_law_67L (nI n) fi fuel (nI i) now = some (nI n, fi, now') ∧ (∀ k, k ≠ 1 ∧ (k < 96 + 9 * n ∨ 105 + 9 * n ≤ k) → now' k = now0 k) ∧ now' 1 = nI (n + 1) ∧ ∀ w, w < 3 → now' (96 + 9 * n + 3 * w) = (if w = 0 then 0 else -2) ∧ now' (96 + 9 * n + 3 * w + 1) = 0 ∧ now' (96 + 9 * n + 3 * w + 2) = 0 := by
  induction fuel with
  | zero => intro i now _ h; exact absurd h (Nat.not_lt_zero _)
  | succ fuel ih =>
    intro i now hi hf h1 h2
    have e0 : F_X11_law_67L (nI n) fi (fuel + 1) (nI i) now = F_X11_law_67 (F_X11_law_67L (nI n) fi fuel) (nI n) (nI i) fi now := rfl
    rw [e0]
    unfold F_X11_law_67
    by_cases c : i = 3
    · subst c
      rw [if_pos (show (3 : Int32) ≤ nI 3 from nI_le (Nat.le_refl 3) (by omega)), ck_lit (i := 1) (n := 1600) (by decide), lt_e, nI_1, show (1 : Int32).toNatClampNeg = 1 by decide]
      exact ⟨_, rfl, fun k hk => by rw [pk_un hk.1]; exact h1 k hk.2, pk_us, fun w hw => by rw [pk_un (by omega), pk_un (by omega), pk_un (by omega)]; exact h2 w hw⟩
    · have e3 : ((96 : Int32) + (9 : Int32) * nI n) + (3 : Int32) * nI i = nI (96 + 9 * n + 3 * i) := by
        rw [show (96 : Int32) = nI 96 from rfl, show (9 : Int32) = nI 9 from rfl, show (3 : Int32) = nI 3 from rfl, pk_mul, pk_mul, nI_add, nI_add]
      have e4 : nI (96 + 9 * n + 3 * i) + 2 = nI (96 + 9 * n + 3 * i + 2) := nI_add _ 2
      have step : ∀ v : Int32, v = (if i = 0 then 0 else -2) → ∃ now', F_X11_law_97 (F_X11_law_67L (nI n) fi fuel) (nI n) (nI i) (nI (96 + 9 * n + 3 * i)) v fi now = some (nI n, fi, now') ∧ (∀ k, k ≠ 1 ∧ (k < 96 + 9 * n ∨ 105 + 9 * n ≤ k) → now' k = now0 k) ∧ now' 1 = nI (n + 1) ∧ ∀ w, w < 3 → now' (96 + 9 * n + 3 * w) = (if w = 0 then 0 else -2) ∧ now' (96 + 9 * n + 3 * w + 1) = 0 ∧ now' (96 + 9 * n + 3 * w + 2) = 0 := by
        intro v hv
        unfold F_X11_law_97
        rw [e3, e4, nI_1, nI_1, ck_ok rfl (show 96 + 9 * n + 3 * i < 1600 by omega) (by decide), lt_e, ck_ok rfl (show 96 + 9 * n + 3 * i + 1 < 1600 by omega) (by decide), lt_e, ck_ok rfl (show 96 + 9 * n + 3 * i + 2 < 1600 by omega) (by decide), lt_e, lt_e, nI_clamp (n := 96 + 9 * n + 3 * i) (by omega), nI_clamp (n := 96 + 9 * n + 3 * i + 1) (by omega), nI_clamp (n := 96 + 9 * n + 3 * i + 2) (by omega)]
        refine ih (i + 1) _ (by omega) (by omega) (fun k hk => ?_) (fun w hw => ?_)
        · rw [pk_un (by omega), pk_un (by omega), pk_un (by omega)]; exact h1 k hk
        · by_cases c2 : w = i
          · subst c2
            refine ⟨?_, ?_, ?_⟩
            · rw [pk_un (by omega), pk_un (by omega), pk_us]; exact hv
            · rw [pk_un (by omega), pk_us]
            · rw [pk_us]
          · rw [pk_un (by omega), pk_un (by omega), pk_un (by omega), pk_un (by omega), pk_un (by omega), pk_un (by omega), pk_un (by omega), pk_un (by omega), pk_un (by omega)]
            exact h2 w (by omega)
      rw [if_neg (show ¬ (3 : Int32) ≤ nI i from nI_ge (a := i) (b := 3) (by omega) (by decide)), e3]
      by_cases c0 : i = 0
      · rw [if_pos ((e0_ (by omega)).mpr c0)]
        exact step 0 (by rw [if_pos c0])
      · rw [if_neg (fun q => c0 ((e0_ (by omega)).mp q))]
        exact step (-2) (by rw [if_neg c0])
set_option maxHeartbeats 1000000 in
theorem sim_law : Sim_law Rel := by
  intro wc ak fi kwd kou kga klc klt klw kLc kLf kLh kLi kLk kLK kLN kLY kMc kMf kSc kSr kSk kSn kSy kTc kTo kTO kTp wd ou ga lc lt lw Lc Lf Lh Li Lk LK LN LY Mc Mf Sc Sr Sk Sn Sy Tc To TO Tp wt isK wts mfi now mkept mwt z0 hR
  obtain ⟨hW, hK, hF, hS⟩ := hR
  subst hF
  have hS0 := hS
  obtain ⟨ns, nl, nt, nm, hC, hSn, hL, hT, hM, ⟨r, hw⟩, hO, hLt, hG⟩ := hS
  obtain ⟨n0, n1, n2, n3, rfl, rfl, rfl, rfl, bb0, bb1, bb2, bb3⟩ := hC
  have e1i : (1 : Int32).toNatClampNeg = 1 := by decide
  have ek : F_X1_isKind z0 = F_X11_in z0 0 3 := rfl
  rcases in_c z0 0 3 with ⟨h1, h2⟩ | ⟨h1, h2, h3⟩
  · iterate 12 apply Exists.intro
    refine ⟨?e1, ?e2, hW, hK, ?e5, ?e3⟩
    case e1 => unfold F_X10_law F_X10_law_0; rw [ek, h1]; rfl
    case e2 => unfold F_X11_law F_X11_law_0; rw [h1]; rfl
    case e5 => rfl
    case e3 => exact hS0
  · obtain ⟨kd, hkd, rfl⟩ := in_n (b := 3) (m := 3) rfl (by decide) h2 h3
    by_cases c : nl = 16
    · subst c
      iterate 12 apply Exists.intro
      refine ⟨?e1, ?e2, hW, hK, ?e5, ?e3⟩
      case e1 => unfold F_X10_law F_X10_law_0; rw [ek, h1]; rfl
      case e2 => unfold F_X11_law F_X11_law_0; rw [h1, e1i, n1]; rfl
      case e5 => rfl
      case e3 => exact hS0
    · have hc : ¬ nI nl = 16 := fun q => c ((nI_eq (b := 16) (by omega) (by decide)).mp q)
      have e48 : (48 : Int32) + nI nl = nI (48 + nl) := nI_add 48 nl
      have e64 : (64 : Int32) + nI nl = nI (64 + nl) := nI_add 64 nl
      have e80 : (80 : Int32) + nI nl = nI (80 + nl) := nI_add 80 nl
      obtain ⟨now', d1, d2, d3, d4⟩ := m_lawL (n := nl) (by omega) fi (upd (upd (upd now (48 + nl) (nI kd)) (64 + nl) 1) (80 + nl) 0) fu_ 0 (upd (upd (upd now (48 + nl) (nI kd)) (64 + nl) 1) (80 + nl) 0) (Nat.zero_le _) (by unfold fu_; omega) (fun _ _ => rfl) (fun q hq => absurd hq (Nat.not_lt_zero q))
      have hn : ∀ i, i ≠ 1 ∧ i ≠ 48 + nl ∧ i ≠ 64 + nl ∧ i ≠ 80 + nl ∧ (i < 96 + 9 * nl ∨ 105 + 9 * nl ≤ i) → now' i = now i := fun i hi => by
        rw [d2 i (by omega), pk_un hi.2.2.2.1, pk_un hi.2.2.1, pk_un hi.2.1]
      have x48 : now' (48 + nl) = nI kd := by rw [d2 _ (by omega), pk_un (by omega), pk_un (by omega), pk_us]
      have x64 : now' (64 + nl) = nI 1 := by rw [d2 _ (by omega), pk_un (by omega), pk_us]; rfl
      have x80 : now' (80 + nl) = nI 0 := by rw [d2 _ (by omega), pk_us]; rfl
      obtain ⟨t0, t1, t2, t3⟩ := c_define (p := 3 * nl + 0) (by omega) bb0 0 0 0 (Or.inr (Or.inr (by decide))) Sk Sn Sy Lf LK LN LY
      obtain ⟨u0, u1, u2, u3⟩ := c_define (p := 3 * nl + 1) (by omega) bb0 (-2) 0 0 (Or.inl rfl) Sk Sn Sy (upd Lf (3 * nl + 0) (nI t0)) (upd LK (3 * nl + 0) 0) (upd LN (3 * nl + 0) 0) (upd LY (3 * nl + 0) 0)
      obtain ⟨v0, v1, v2, v3⟩ := c_define (p := 3 * nl + 2) (by omega) bb0 (-2) 0 0 (Or.inl rfl) Sk Sn Sy (upd (upd Lf (3 * nl + 0) (nI t0)) (3 * nl + 1) (nI u0)) (upd (upd LK (3 * nl + 0) 0) (3 * nl + 1) (-2)) (upd (upd LN (3 * nl + 0) 0) (3 * nl + 1) 0) (upd (upd LY (3 * nl + 0) 0) (3 * nl + 1) 0)
      have hSn' : SN now' ns Sk Sn Sr Sy := SN_c bb0 (fun i h4 h5 => hn i (by omega)) hSn
      have fe : ∀ w, w < 3 → ∀ q, q < ns ∨ q = 8 → fsb now' nl w q = fsK (if w = 0 then 0 else -2) 0 0 Sk Sy Sn q := fun w hw q hq => by
        obtain ⟨y1, y2, y3⟩ := d4 w hw
        rw [fsb_K, y1, y2, y3, SN_K hSn' hq]
      have hL' : LL now' ns (nl + 1) (upd (upd (upd Lf (3 * nl + 0) (nI t0)) (3 * nl + 1) (nI u0)) (3 * nl + 2) (nI v0)) (upd Lh nl 1) (upd Li nl 0) (upd Lk nl (nI kd)) (upd (upd (upd LK (3 * nl + 0) 0) (3 * nl + 1) (-2)) (3 * nl + 2) (-2)) (upd (upd (upd LN (3 * nl + 0) 0) (3 * nl + 1) 0) (3 * nl + 2) 0) (upd (upd (upd LY (3 * nl + 0) 0) (3 * nl + 1) 0) (3 * nl + 2) 0) := by
        refine ⟨⟨by omega, bb0, fun k hk => ?_⟩, fun k hk => ?_, fun k hk w hw => ?_⟩
        · by_cases ck : k = nl
          · subst ck
            exact ⟨kd, 1, 0, x48, hkd, x64, by decide, x80, by decide, Or.inl rfl⟩
          · rw [hn (48 + k) (by omega), hn (64 + k) (by omega), hn (80 + k) (by omega)]
            exact hL.1.2.2 k (by omega)
        · by_cases ck : k = nl
          · subst ck
            rw [pk_us, pk_us, pk_us, x48, x64, x80]
            refine ⟨rfl, rfl, rfl, fun w hw => ?_⟩
            rcases (show w = 0 ∨ w = 1 ∨ w = 2 by omega) with rfl | rfl | rfl
            · refine ⟨t0, t1, by rw [pk_un (by omega), pk_un (by omega), pk_us], fun q hq => ?_⟩
              rw [t3 q hq, fe 0 (by decide) q hq]; rfl
            · refine ⟨u0, u1, by rw [pk_un (by omega), pk_us], fun q hq => ?_⟩
              rw [u3 q hq, fe 1 (by decide) q hq]; rfl
            · refine ⟨v0, v1, by rw [pk_us], fun q hq => ?_⟩
              rw [v3 q hq, fe 2 (by decide) q hq]; rfl
          · obtain ⟨a1, a2, a3, a4⟩ := hL.2.1 k (by omega)
            rw [hn (48 + k) (by omega), hn (64 + k) (by omega), hn (80 + k) (by omega), pk_un ck, pk_un ck, pk_un ck]
            refine ⟨a1, a2, a3, fun w hw => ?_⟩
            obtain ⟨b, q1, q2, q3⟩ := a4 w hw
            refine ⟨b, q1, by rw [pk_un (by omega), pk_un (by omega), pk_un (by omega)]; exact q2, fun q hq => ?_⟩
            rw [q3 q hq, fsb_K, fsb_K, hn (96 + 9 * k + 3 * w) (by omega), hn (96 + 9 * k + 3 * w + 1) (by omega), hn (96 + 9 * k + 3 * w + 2) (by omega)]
            apply fsK_c
            intro h8
            refine ⟨(hn _ (by omega)).symm, (hn _ (by omega)).symm, (hn _ (by omega)).symm⟩
        · by_cases ck : k = nl
          · subst ck
            obtain ⟨y1, y2, y3⟩ := d4 w hw
            rw [y1, y2, y3]
            rcases (show w = 0 ∨ w = 1 ∨ w = 2 by omega) with rfl | rfl | rfl
            · rw [pk_un (by omega), pk_un (by omega), pk_us, pk_un (by omega), pk_un (by omega), pk_us, pk_un (by omega), pk_un (by omega), pk_us]
              exact ⟨rfl, rfl, rfl, Or.inr (Or.inr (by decide))⟩
            · rw [pk_un (by omega), pk_us, pk_un (by omega), pk_us, pk_un (by omega), pk_us]
              exact ⟨rfl, rfl, rfl, Or.inl rfl⟩
            · rw [pk_us, pk_us, pk_us]
              exact ⟨rfl, rfl, rfl, Or.inl rfl⟩
          · rw [hn (96 + 9 * k + 3 * w) (by omega), hn (96 + 9 * k + 3 * w + 1) (by omega), hn (96 + 9 * k + 3 * w + 2) (by omega), pk_un (by omega), pk_un (by omega), pk_un (by omega), pk_un (by omega), pk_un (by omega), pk_un (by omega), pk_un (by omega), pk_un (by omega), pk_un (by omega)]
            exact hL.2.2 k (by omega) w hw
      have hT' : TT now' (nl + 1) nt To TO Tp := by
        have hT0 : TT now' nl nt To TO Tp := TT_c (fun i h4 h5 => hn i (by omega)) hT
        refine ⟨⟨hT0.1.1, fun t ht => ?_⟩, hT0.2⟩
        obtain ⟨a1, c, c1, c2, c3⟩ := hT0.1.2 t ht
        exact ⟨a1, c, c1, c2, fun k hk => by
          obtain ⟨a, p1, p2, p3⟩ := c3 k hk
          exact ⟨a, by omega, p2, p3⟩⟩
      iterate 12 apply Exists.intro
      refine ⟨?e1, ?e2, hW, hK, ?e5, ns, nl + 1, nt, nm, ⟨(hn 0 (by omega)).trans n0, d3, (hn 2 (by omega)).trans n2, (hn 3 (by omega)).trans n3, rfl, ?e6, rfl, rfl, bb0, by omega, bb2, bb3⟩, hSn', hL', hT', MN_c bb3 (fun i h4 h5 => hn i (by omega)) hM, ⟨r, WDr_c (hn 4 (by omega)) (fun i h4 h5 => hn i (by omega)) hw⟩, OC_c (hn 7 (by omega)) (fun i h4 h5 => hn i (by omega)) hO, LT_c (hn 5 (by omega)) (fun i h4 h5 => hn i (by omega)) hLt, GP_c (hn 6 (by omega)) hG⟩
      case e1 =>
        unfold F_X10_law F_X10_law_0 F_X1_add F_X1_add_0
        have s0 : F_X1_setPlace (nI nl) 0 = some (nI (3 * nl + 0)) := set_pl nl 0
        have s1 : F_X1_setPlace (nI nl) 1 = some (nI (3 * nl + 1)) := set_pl nl 1
        have s2 : F_X1_setPlace (nI nl) 2 = some (nI (3 * nl + 2)) := set_pl nl 2
        have e4 : ∀ {α : Type} (k : (Nat → Int32) → (Nat → Int32) → (Nat → Int32) → (Nat → Int32) → Option α) (a b c d : Nat → Int32), bn4_ (some (a, b, c, d)) k = k a b c d := fun _ _ _ _ _ => rfl
        rw [ek, h1, b1_s, if_neg (by decide), if_neg hc, ck_ok rfl (show nl < 16 by omega) (by decide), lt_e, ck_ok rfl (show nl < 16 by omega) (by decide), lt_e, ck_ok rfl (show nl < 16 by omega) (by decide), lt_e, s0, b1_s, t2, e4, s1, b1_s, u2, e4, s2, b1_s, v2, e4, lt_e, nI_clamp (n := nl) (by omega)]
        rfl
      case e2 =>
        unfold F_X11_law F_X11_law_0
        rw [h1, b1_s, if_neg (by decide), e1i, n1, ck_lit (i := 1) (n := 1600) (by decide), lt_e, if_neg hc, e48, e64, e80, ck_ok rfl (show 48 + nl < 1600 by omega) (by decide), lt_e, ck_ok rfl (show 64 + nl < 1600 by omega) (by decide), lt_e, ck_ok rfl (show 80 + nl < 1600 by omega) (by decide), lt_e, nI_clamp (n := 48 + nl) (by omega), nI_clamp (n := 64 + nl) (by omega), nI_clamp (n := 80 + nl) (by omega)]
        exact d1
      case e5 => rfl
      case e6 => exact nI_1 nl
