/-! keep, again -/
theorem cp6 {β : Type} {X : Option β} : cp_ (0 : Int32) 0 6 6 6 X = X := if_neg (by decide)
theorem cp8 {β : Type} {X : Option β} : cp_ (0 : Int32) 0 8 8 8 X = X := if_neg (by decide)
theorem cp16 {β : Type} {X : Option β} : cp_ (0 : Int32) 0 16 16 16 X = X := if_neg (by decide)
theorem cp36 {β : Type} {X : Option β} : cp_ (0 : Int32) 0 36 36 36 X = X := if_neg (by decide)
theorem cp48 {β : Type} {X : Option β} : cp_ (0 : Int32) 0 48 48 48 X = X := if_neg (by decide)
theorem cpy0 {α : Type} {f g : Nat → α} {n j : Nat} (h : j < n) : va_cpy f g 0 0 n j = f j := by
  rw [pk_cpy_in (Nat.zero_le _) (by omega), Nat.zero_add, Nat.sub_zero]
theorem c_cp7 (own0 : Nat → Nat → Int32) (cnt : Int32) (oc par : Nat → Int32) (fuel : Nat) : ∀ (i : Nat) (f : Nat → Nat → Int32), i ≤ 6 → 6 - i < fuel → (∀ t, t < i → ∀ k, k < 6 → f t k = own0 t k) → ∃ f', F_X7_copyFrom_40L own0 cnt oc par fuel (nI i) f = some (cnt, f', oc, par) ∧ ∀ t, t < 6 → ∀ k, k < 6 → f' t k = own0 t k := by
  induction fuel with
  | zero => intro i f _ h; exact absurd h (Nat.not_lt_zero _)
  | succ fuel ih =>
    intro i f hi hf h1
    have e0 : F_X7_copyFrom_40L own0 cnt oc par (fuel + 1) (nI i) f = F_X7_copyFrom_40 (F_X7_copyFrom_40L own0 cnt oc par fuel) (nI i) own0 cnt f oc par := rfl
    rw [e0]
    unfold F_X7_copyFrom_40
    by_cases c : i = 6
    · subst c
      rw [if_pos (show (6 : Int32) ≤ nI 6 from nI_le (Nat.le_refl 6) (by omega))]
      exact ⟨f, rfl, h1⟩
    · rw [if_neg (show ¬ (6 : Int32) ≤ nI i from nI_ge (a := i) (b := 6) (by omega) (by decide)), ck_ok rfl (show i < 6 by omega) (by decide), ck_ok rfl (show i < 6 by omega) (by decide), cp6, lt_e, lt_e, nI_1, nI_clamp (n := i) (by omega), show (0 : Int32).toNatClampNeg = 0 by decide, show (6 : Int32).toNatClampNeg = 6 by decide]
      refine ih (i + 1) _ (by omega) (by omega) (fun t ht k hk => ?_)
      by_cases c2 : t = i
      · subst c2; rw [ur_s]; exact cpy0 hk
      · rw [ur_n c2]; exact h1 t (by omega) k hk
theorem c_cp2 (own0 : Nat → Nat → Int64) (cnt : Int32) (fuel : Nat) : ∀ (i : Nat) (f : Nat → Nat → Int64), i ≤ 8 → 8 - i < fuel → (∀ t, t < i → ∀ k, k < 6 → f t k = own0 t k) → ∃ f', F_X2_copyFrom_10L own0 cnt fuel (nI i) f = some (cnt, f') ∧ ∀ t, t < 8 → ∀ k, k < 6 → f' t k = own0 t k := by
  induction fuel with
  | zero => intro i f _ h; exact absurd h (Nat.not_lt_zero _)
  | succ fuel ih =>
    intro i f hi hf h1
    have e0 : F_X2_copyFrom_10L own0 cnt (fuel + 1) (nI i) f = F_X2_copyFrom_10 (F_X2_copyFrom_10L own0 cnt fuel) (nI i) own0 cnt f := rfl
    rw [e0]
    unfold F_X2_copyFrom_10
    by_cases c : i = 8
    · subst c
      rw [if_pos (show (8 : Int32) ≤ nI 8 from nI_le (Nat.le_refl 8) (by omega))]
      exact ⟨f, rfl, h1⟩
    · rw [if_neg (show ¬ (8 : Int32) ≤ nI i from nI_ge (a := i) (b := 8) (by omega) (by decide)), ck_ok rfl (show i < 8 by omega) (by decide), ck_ok rfl (show i < 8 by omega) (by decide), cp6, lt_e, lt_e, nI_1, nI_clamp (n := i) (by omega), show (0 : Int32).toNatClampNeg = 0 by decide, show (6 : Int32).toNatClampNeg = 6 by decide]
      refine ih (i + 1) _ (by omega) (by omega) (fun t ht k hk => ?_)
      by_cases c2 : t = i
      · subst c2; rw [ur_s]; exact cpy0 hk
      · rw [ur_n c2]; exact h1 t (by omega) k hk
theorem StR_cong {wd ou : Int64} {ga lc : Int32} {lt lt' : Nat → Int32} {lw lw' : Nat → Int64} {Lc : Int32} {Lf Lh Li Lk LK LN LY Lf' Lh' Li' Lk' LK' LN' LY' : Nat → Int32} {Mc : Int32} {Mf Mf' : Nat → Nat → Int64} {Sc : Int32} {Sk Sn Sy Sk' Sn' Sy' : Nat → Int32} {Sr : Int32} {Tc : Int32} {To To' : Nat → Nat → Int32} {TO Tp TO' Tp' : Nat → Int32} {now now' : Nat → Int32}
    (h : StR wd ou ga lc lt lw Lc Lf Lh Li Lk LK LN LY Mc Mf Sc Sk Sn Sr Sy Tc To TO Tp now)
    (elt : ∀ i, i < 36 → lt' i = lt i) (elw : ∀ i, i < 36 → lw' i = lw i) (eLf : ∀ i, i < 48 → Lf' i = Lf i) (eLh : ∀ i, i < 16 → Lh' i = Lh i) (eLi : ∀ i, i < 16 → Li' i = Li i) (eLk : ∀ i, i < 16 → Lk' i = Lk i) (eLK : ∀ i, i < 48 → LK' i = LK i) (eLN : ∀ i, i < 48 → LN' i = LN i) (eLY : ∀ i, i < 48 → LY' i = LY i) (eMf : ∀ m, m < 8 → ∀ t, t < 6 → Mf' m t = Mf m t) (eSk : ∀ i, i < 8 → Sk' i = Sk i) (eSn : ∀ i, i < 8 → Sn' i = Sn i) (eSy : ∀ i, i < 8 → Sy' i = Sy i) (eTo : ∀ t, t < 6 → ∀ k, k < 6 → To' t k = To t k) (eTO : ∀ i, i < 6 → TO' i = TO i) (eTp : ∀ i, i < 6 → Tp' i = Tp i) (en : ∀ i, i < 1600 → now' i = now i) :
    StR wd ou ga lc lt' lw' Lc Lf' Lh' Li' Lk' LK' LN' LY' Mc Mf' Sc Sk' Sn' Sr Sy' Tc To' TO' Tp' now' := by
  obtain ⟨ns, nl, nt, nm, hC, hSn, hL, hT, hM, ⟨r, hw⟩, hO, hLt, hG⟩ := h
  obtain ⟨n0, n1, n2, n3, rfl, rfl, rfl, rfl, bb0, bb1, bb2, bb3⟩ := hC
  refine ⟨ns, nl, nt, nm, ⟨(en 0 (by omega)).trans n0, (en 1 (by omega)).trans n1, (en 2 (by omega)).trans n2, (en 3 (by omega)).trans n3, rfl, rfl, rfl, rfl, bb0, bb1, bb2, bb3⟩, ?_, ?_, ?_, ?_, ⟨r, WDr_c (en 4 (by omega)) (fun i _ h => en i (by omega)) hw⟩, OC_c (en 7 (by omega)) (fun i _ h => en i (by omega)) hO, ?_, GP_c (en 6 (by omega)) hG⟩
  · refine SN_c bb0 (fun i _ h => en i (by omega)) ⟨hSn.1, fun s hs => ?_⟩
    rw [eSk s (by omega), eSn s (by omega), eSy s (by omega)]
    exact hSn.2 s hs
  · refine LL_c (fun i _ h => en i (by omega)) ⟨hL.1, fun l hl => ?_, fun l hl w hw => ?_⟩
    · obtain ⟨a1, a2, a3, a4⟩ := hL.2.1 l hl
      rw [eLk l (by omega), eLh l (by omega), eLi l (by omega)]
      refine ⟨a1, a2, a3, fun w hw => ?_⟩
      rw [eLf (3 * l + w) (by omega)]
      exact a4 w hw
    · rw [eLK (3 * l + w) (by omega), eLN (3 * l + w) (by omega), eLY (3 * l + w) (by omega)]
      exact hL.2.2 l hl w hw
  · refine TT_c (fun i _ h => en i (by omega)) (TT_mk hT.1 (fun t ht => ?_))
    obtain ⟨c, c1, c2, c3, c4, c5, c6⟩ := TT_at hT ht
    rw [eTO t (by omega), eTp t (by omega)]
    refine ⟨c4, c3.trans c2.symm, fun k hk => ?_⟩
    rw [gn_of c2 (by omega)] at hk
    obtain ⟨a, a1, a2, a3, a4⟩ := c6 k hk
    rw [eTo t (by omega) k (by omega), a3, a4]
  · refine MN_c bb3 (fun i _ h => en i (by omega)) (fun m hm t ht => ?_)
    rw [eMf m (by omega) t ht]
    exact hM m hm t ht
  · refine LT_c (now := now) (en 5 (by omega)) (fun i _ h => en i (by omega)) ?_
    obtain ⟨k, k1, k2, k3, k4⟩ := hLt
    refine ⟨k, k1, k2, k3, fun i hi => ?_⟩
    rw [elt i (by omega), elw i (by omega)]
    exact k4 i hi
theorem takeOver_ok {wd ou : Int64} {ga lc : Int32} {lt : Nat → Int32} {lw : Nat → Int64} {Lc : Int32} {Lf Lh Li Lk LK LN LY : Nat → Int32} {Mc : Int32} {Mf : Nat → Nat → Int64} {Sc : Int32} {Sk Sn Sy : Nat → Int32} {Sr : Int32} {Tc : Int32} {To : Nat → Nat → Int32} {TO Tp : Nat → Int32} {now now' : Nat → Int32}
    (h : StR wd ou ga lc lt lw Lc Lf Lh Li Lk LK LN LY Mc Mf Sc Sk Sn Sr Sy Tc To TO Tp now) (en : ∀ i, i < 1600 → now' i = now i)
    (kwd kou : Int64) (kga klc : Int32) (klt : Nat → Int32) (klw : Nat → Int64) (kLc : Int32) (kLf kLh kLi kLk kLK kLN kLY : Nat → Int32) (kMc : Int32) (kMf : Nat → Nat → Int64) (kSc kSr : Int32) (kSk kSn kSy : Nat → Int32) (kTc : Int32) (kTo : Nat → Nat → Int32) (kTO kTp : Nat → Int32) :
    ∃ lt' lw' Lf' Lh' Li' Lk' LK' LN' LY' Mf' Sk' Sn' Sy' To' TO' Tp', F_X6_takeOver wd ou ga lc lt lw Lc Lf Lh Li Lk LK LN LY Mc Mf Sc Sr Sk Sn Sy Tc To TO Tp kwd kou kga klc klt klw kLc kLf kLh kLi kLk kLK kLN kLY kMc kMf kSc kSr kSk kSn kSy kTc kTo kTO kTp = some (wd, ou, ga, lc, lt', lw', Lc, Lf', Lh', Li', Lk', LK', LN', LY', Mc, Mf', Sc, Sr, Sk', Sn', Sy', Tc, To', TO', Tp') ∧ StR wd ou ga lc lt' lw' Lc Lf' Lh' Li' Lk' LK' LN' LY' Mc Mf' Sc Sk' Sn' Sr Sy' Tc To' TO' Tp' now' := by
  obtain ⟨To', t1, t2⟩ := c_cp7 To Tc (va_cpy TO kTO 0 0 6) (va_cpy Tp kTp 0 0 6) fu_ 0 kTo (Nat.zero_le _) (by unfold fu_; omega) (fun t h => absurd h (Nat.not_lt_zero t))
  obtain ⟨Mf', m1, m2⟩ := c_cp2 Mf Mc fu_ 0 kMf (Nat.zero_le _) (by unfold fu_; omega) (fun t h => absurd h (Nat.not_lt_zero t))
  refine ⟨va_cpy lt klt 0 0 36, va_cpy lw klw 0 0 36, va_cpy Lf kLf 0 0 48, va_cpy Lh kLh 0 0 16, va_cpy Li kLi 0 0 16, va_cpy Lk kLk 0 0 16, va_cpy LK kLK 0 0 48, va_cpy LN kLN 0 0 48, va_cpy LY kLY 0 0 48, Mf', va_cpy Sk kSk 0 0 8, va_cpy Sn kSn 0 0 8, va_cpy Sy kSy 0 0 8, To', va_cpy TO kTO 0 0 6, va_cpy Tp kTp 0 0 6, ?_, ?_⟩
  · have z0 : (0 : Int32).toNatClampNeg = 0 := by decide
    have z6 : (6 : Int32).toNatClampNeg = 6 := by decide
    have z8 : (8 : Int32).toNatClampNeg = 8 := by decide
    have z16 : (16 : Int32).toNatClampNeg = 16 := by decide
    have z36 : (36 : Int32).toNatClampNeg = 36 := by decide
    have z48 : (48 : Int32).toNatClampNeg = 48 := by decide
    have s5 : F_X5_copyFrom Sc Sr Sk Sn Sy kSc kSr kSk kSn kSy = some (Sc, Sr, va_cpy Sk kSk 0 0 8, va_cpy Sn kSn 0 0 8, va_cpy Sy kSy 0 0 8) := by
      unfold F_X5_copyFrom F_X5_copyFrom_0
      rw [lt_e, lt_e, cp8, lt_e, cp8, lt_e, cp8, lt_e, z0, z8]
    have s1 : F_X1_copyFrom Lc Lf Lh Li Lk LK LN LY kLc kLf kLh kLi kLk kLK kLN kLY = some (Lc, va_cpy Lf kLf 0 0 48, va_cpy Lh kLh 0 0 16, va_cpy Li kLi 0 0 16, va_cpy Lk kLk 0 0 16, va_cpy LK kLK 0 0 48, va_cpy LN kLN 0 0 48, va_cpy LY kLY 0 0 48) := by
      unfold F_X1_copyFrom F_X1_copyFrom_0
      rw [lt_e, cp16, lt_e, cp16, lt_e, cp16, lt_e, cp48, lt_e, cp48, lt_e, cp48, lt_e, cp48, lt_e, z0, z16, z48]
    have s7 : F_X7_copyFrom Tc To TO Tp kTc kTo kTO kTp = some (Tc, To', va_cpy TO kTO 0 0 6, va_cpy Tp kTp 0 0 6) := by
      unfold F_X7_copyFrom F_X7_copyFrom_0
      rw [lt_e, cp6, lt_e, cp6, lt_e, z0, z6]
      exact t1
    have s2 : F_X2_copyFrom Mc Mf kMc kMf = some (Mc, Mf') := by
      unfold F_X2_copyFrom F_X2_copyFrom_0
      rw [lt_e]
      exact m1
    have s3 : F_X3_copyFrom lc lt lw klc klt klw = some (lc, va_cpy lt klt 0 0 36, va_cpy lw klw 0 0 36) := by
      unfold F_X3_copyFrom F_X3_copyFrom_0
      rw [lt_e, cp36, lt_e, cp36, lt_e, z0, z36]
    unfold F_X6_takeOver F_X6_takeOver_0
    rw [s5, s1, s7, s2, s3]
    rfl
  · exact StR_cong h (fun i hi => cpy0 hi) (fun i hi => cpy0 hi) (fun i hi => cpy0 hi) (fun i hi => cpy0 hi) (fun i hi => cpy0 hi) (fun i hi => cpy0 hi) (fun i hi => cpy0 hi) (fun i hi => cpy0 hi) (fun i hi => cpy0 hi) m2 (fun i hi => cpy0 hi) (fun i hi => cpy0 hi) (fun i hi => cpy0 hi) t2 (fun i hi => cpy0 hi) (fun i hi => cpy0 hi) en
theorem m_keepL (now : Nat → Int32) (fuel : Nat) : ∀ (i : Nat) (isK : Int32) (kept : Nat → Int32), i ≤ 1600 → 1600 - i < fuel → (∀ k, k < i → kept k = now k) → ∃ kept', F_X11_keep_2L now fuel (nI i) isK kept = some (1, 1, kept') ∧ ∀ k, k < 1600 → kept' k = now k := by
  induction fuel with
  | zero => intro i isK f _ h; exact absurd h (Nat.not_lt_zero _)
  | succ fuel ih =>
    intro i isK f hi hf h1
    have e0 : F_X11_keep_2L now (fuel + 1) (nI i) isK f = F_X11_keep_2 (F_X11_keep_2L now fuel) (nI i) isK f now := rfl
    rw [e0]
    unfold F_X11_keep_2
    by_cases c : i = 1600
    · subst c
      rw [if_pos (show (1600 : Int32) ≤ nI 1600 from nI_le (Nat.le_refl 1600) (by omega)), lt_e]
      exact ⟨f, rfl, h1⟩
    · rw [if_neg (show ¬ (1600 : Int32) ≤ nI i from nI_ge (a := i) (b := 1600) (by omega) (by decide)), ck_ok rfl (show i < 1600 by omega) (by decide), ck_ok rfl (show i < 1600 by omega) (by decide), lt_e, lt_e, nI_1, nI_clamp (n := i) (by omega)]
      refine ih (i + 1) _ _ (by omega) (by omega) (fun t ht => ?_)
      by_cases c2 : t = i
      · subst c2; exact pk_us
      · rw [pk_un c2]; exact h1 t (by omega)
theorem m_againL (fi : Int32) (kept : Nat → Int32) (fuel : Nat) : ∀ (i : Nat) (now : Nat → Int32), i ≤ 1600 → 1600 - i < fuel → (∀ k, k < i → now k = kept k) → ∃ now', F_X11_again_16L fi kept fuel (nI i) now = some (1, fi, now') ∧ ∀ k, k < 1600 → now' k = kept k := by
  induction fuel with
  | zero => intro i f _ h; exact absurd h (Nat.not_lt_zero _)
  | succ fuel ih =>
    intro i f hi hf h1
    have e0 : F_X11_again_16L fi kept (fuel + 1) (nI i) f = F_X11_again_16 (F_X11_again_16L fi kept fuel) (nI i) fi kept f := rfl
    rw [e0]
    unfold F_X11_again_16
    by_cases c : i = 1600
    · subst c
      rw [if_pos (show (1600 : Int32) ≤ nI 1600 from nI_le (Nat.le_refl 1600) (by omega))]
      exact ⟨f, rfl, h1⟩
    · rw [if_neg (show ¬ (1600 : Int32) ≤ nI i from nI_ge (a := i) (b := 1600) (by omega) (by decide)), ck_ok rfl (show i < 1600 by omega) (by decide), ck_ok rfl (show i < 1600 by omega) (by decide), lt_e, lt_e, nI_1, nI_clamp (n := i) (by omega)]
      refine ih (i + 1) _ (by omega) (by omega) (fun t ht => ?_)
      by_cases c2 : t = i
      · subst c2; exact pk_us
      · rw [pk_un c2]; exact h1 t (by omega)
set_option maxHeartbeats 1000000 in
theorem sim_keep : Sim_keep Rel := by
  intro wc ak fi kwd kou kga klc klt klw kLc kLf kLh kLi kLk kLK kLN kLY kMc kMf kSc kSr kSk kSn kSy kTc kTo kTO kTp wd ou ga lc lt lw Lc Lf Lh Li Lk LK LN LY Mc Mf Sc Sr Sk Sn Sy Tc To TO Tp wt isK wts mfi now mkept mwt hR
  obtain ⟨hW, hK, hF, hS⟩ := hR
  subst hF
  have hS0 := hS
  obtain ⟨ns, nl, nt, nm, hC, hSn, hL, hT, hM, ⟨r, hw⟩, hO, hLt, hG⟩ := hS
  obtain ⟨n0, n1, n2, n3, rfl, rfl, rfl, rfl, bb0, bb1, bb2, bb3⟩ := hC
  obtain ⟨kept', q1, q2⟩ := m_keepL now fu_ 0 isK mkept (Nat.zero_le _) (by unfold fu_; omega) (fun k h => absurd h (Nat.not_lt_zero k))
  obtain ⟨lt', lw', Lf', Lh', Li', Lk', LK', LN', LY', Mf', Sk', Sn', Sy', To', TO', Tp', t1, t2⟩ := takeOver_ok hS0 q2 kwd kou kga klc klt klw kLc kLf kLh kLi kLk kLK kLN kLY kMc kMf kSc kSr kSk kSn kSy kTc kTo kTO kTp
  iterate 29 apply Exists.intro
  refine ⟨?e1, ?e2, hW, ⟨?e6, Or.inr ⟨?e7, t2⟩⟩, rfl, hS0⟩
  case e1 => unfold F_X10_keep F_X10_keep_0; rw [t1]; rfl
  case e2 => unfold F_X11_keep F_X11_keep_0; exact q1
  case e6 => rfl
  case e7 => rfl
set_option maxHeartbeats 1000000 in
theorem sim_again : Sim_again Rel := by
  intro wc ak fi kwd kou kga klc klt klw kLc kLf kLh kLi kLk kLK kLN kLY kMc kMf kSc kSr kSk kSn kSy kTc kTo kTO kTp wd ou ga lc lt lw Lc Lf Lh Li Lk LK LN LY Mc Mf Sc Sr Sk Sn Sy Tc To TO Tp wt isK wts mfi now mkept mwt hR
  obtain ⟨hW, hK, hF, hS⟩ := hR
  subst hF
  have hS0 := hS
  obtain ⟨ns, nl, nt, nm, hC, hSn, hL, hT, hM, ⟨r, hw⟩, hO, hLt, hG⟩ := hS
  obtain ⟨n0, n1, n2, n3, rfl, rfl, rfl, rfl, bb0, bb1, bb2, bb3⟩ := hC
  obtain ⟨rfl, hK2⟩ := hK
  rcases hK2 with h0 | ⟨h1, hSk⟩
  · subst h0
    iterate 29 apply Exists.intro
    refine ⟨?e1, ?e2, hW, ⟨rfl, Or.inl rfl⟩, ?e5, ?e3⟩
    case e1 => unfold F_X10_again F_X10_again_0; rfl
    case e2 => unfold F_X11_again F_X11_again_0; rfl
    case e5 => rfl
    case e3 => exact hS0
  · subst h1
    obtain ⟨now', q1, q2⟩ := m_againL fi mkept fu_ 0 now (Nat.zero_le _) (by unfold fu_; omega) (fun k h => absurd h (Nat.not_lt_zero k))
    obtain ⟨lt', lw', Lf', Lh', Li', Lk', LK', LN', LY', Mf', Sk', Sn', Sy', To', TO', Tp', t1, t2⟩ := takeOver_ok hSk q2 wd ou ga lc lt lw (nI nl) Lf Lh Li Lk LK LN LY (nI nm) Mf (nI ns) Sr Sk Sn Sy (nI nt) To TO Tp
    iterate 29 apply Exists.intro
    refine ⟨?e1, ?e2, hW, ⟨rfl, Or.inr ⟨rfl, hSk⟩⟩, ?e5, t2⟩
    case e1 => unfold F_X10_again F_X10_again_0; rw [if_neg (by decide), t1]; rfl
    case e2 => unfold F_X11_again F_X11_again_0; rw [if_neg (by decide)]; exact q1
    case e5 => rfl
