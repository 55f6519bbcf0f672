/-! step, laws, lawAt -/
theorem m_stepL {m k : Nat} (hm : m ≤ 16) (hk : k < 36) (fi : Int32) (now : Nat → Int32) {r : List Nat} (hr : r.length = m) (ha : arr (fun j => now (944 + 16 * k + j)) r.reverse) (fuel : Nat) : ∀ (i : Nat) (w : Nat → Int32), i ≤ m → m - i < fuel → (∀ q, q < i → w q = now (944 + 16 * k + q)) → ∃ w' now', F_X11_step_39L (nI k) fi (nI m) fuel (nI i) now w = some (nI m, fi, nI m, now', w') ∧ rsl now now' ∧ OCr now' r := by
  induction fuel with
  | zero => intro i w _ h; exact absurd h (Nat.not_lt_zero _)
  | succ fuel ih =>
    intro i w hi hf hz
    have e0 : F_X11_step_39L (nI k) fi (nI m) (fuel + 1) (nI i) now w = F_X11_step_39 (F_X11_step_39L (nI k) fi (nI m) fuel) (nI k) (nI i) fi (nI m) now w := rfl
    rw [e0]
    unfold F_X11_step_39
    by_cases c : i = m
    · subst c
      obtain ⟨now', q1, q2, q3⟩ := m_tell (now := now) (w := w) (r := r) (by omega) (arr_of ha (fun q hq => hz q (by rw [List.length_reverse] at hq; omega)))
      rw [hr] at q1
      rw [if_pos (nI_le (Nat.le_refl _) (by omega)), q1]
      exact ⟨w, now', rfl, q2, q3⟩
    · have e8 : ((944 : Int32) + (16 : Int32) * nI k) + nI i = nI (944 + 16 * k + i) := by
        rw [show (944 : Int32) = nI 944 from rfl, show (16 : Int32) = nI 16 from rfl, pk_mul, nI_add, nI_add]
      rw [if_neg (nI_ge (by omega) (by omega)), e8, ck_ok rfl (show 944 + 16 * k + i < 1600 by omega) (by decide), ck_ok rfl (show i < 16 by omega) (by decide), lt_e, lt_e, nI_1, nI_clamp (n := i) (by omega), nI_clamp (n := 944 + 16 * k + i) (by omega)]
      refine ih (i + 1) _ (by omega) (by omega) (fun q hq => ?_)
      by_cases c2 : q = i
      · subst c2; exact pk_us
      · rw [pk_un c2]; exact hz q (by omega)
set_option maxHeartbeats 1000000 in
theorem sim_step : Sim_step Rel := by
  intro wc ak fi kwd kou kga klc klt klw kLc kLf kLh kLi kLk kLK kLN kLY kMc kMf kSc kSr kSk kSn kSy kTc kTo kTO kTp wd ou ga lc lt lw Lc Lf Lh Li Lk LK LN LY Mc Mf Sc Sr Sk Sn Sy Tc To TO Tp wt isK wts mfi now mkept mwt m_size m_word z0 hR
  obtain ⟨hW, hK, hF, hS⟩ := hR
  subst hF
  have hS0 := hS
  obtain ⟨ns, nl, nt, nm, hC, hSn, hL, hT, hM, ⟨r, hw⟩, hO, hLt, hG⟩ := hS
  obtain ⟨n0, n1, n2, n3, rfl, rfl, rfl, rfl, bb0, bb1, bb2, bb3⟩ := hC
  obtain ⟨k, k1, k2, k3, k4⟩ := hLt
  have e5 : (5 : Int32).toNatClampNeg = 5 := by decide
  rcases ix_c z0 (n := k) (by omega) with h | ⟨j, hj, rfl⟩
  · iterate 7 apply Exists.intro
    refine ⟨?e1, ?e2, hW, hK, ?e5, ?e3⟩
    case e1 => unfold F_X10_step F_X10_step_0; rw [k2, has3, has_no h]; rfl
    case e2 => unfold F_X11_step F_X11_step_0; rw [e5, k3, in_no (by omega) h]; rfl
    case e5 => rfl
    case e3 => exact hS0
  · have e8 : (848 : Int32) + nI j = nI (848 + j) := nI_add 848 j
    obtain ⟨a1, q, q1, q2, q3, q4, q5⟩ := k4 j hj
    obtain ⟨w', now', s1, s2, s3⟩ := m_stepL (m := q.length) (k := j) q2 (by omega) fi now rfl q5 fu_ 0 m_word (Nat.zero_le _) (by unfold fu_; omega) (fun q hq => absurd hq (Nat.not_lt_zero q))
    have hn : ∀ i, i ≠ 7 ∧ (i < 816 ∨ 848 ≤ i) → now' i = now i := fun i hi => s2 i hi.1 hi.2
    have hLt : LT now lc lt lw := ⟨k, k1, k2, k3, k4⟩
    refine ⟨nI q.length, fi, wl q, fi, nI q.length, now', w', ?e1, ?e2, hW, hK, rfl, ns, nl, nt, nm, ⟨(hn 0 (by omega)).trans n0, (hn 1 (by omega)).trans n1, (hn 2 (by omega)).trans n2, (hn 3 (by omega)).trans n3, rfl, rfl, rfl, rfl, bb0, bb1, bb2, bb3⟩, SN_c bb0 (fun i h4 h5 => hn i (by omega)) hSn, LL_c (fun i h4 h5 => hn i (by omega)) hL, TT_c (fun i h4 h5 => hn i (by omega)) hT, MN_c bb3 (fun i h4 h5 => hn i (by omega)) hM, ⟨r, WDr_c (hn 4 (by omega)) (fun i h4 h5 => hn i (by omega)) hw⟩, ⟨q, q1, q2, rfl, s3⟩, LT_c (hn 5 (by omega)) (fun i h4 h5 => hn i (by omega)) hLt, GP_c (hn 6 (by omega)) hG⟩
    case e1 =>
      unfold F_X10_step F_X10_step_0 F_X10_shown F_X10_shown_0
      rw [k2, has3, has_yes (by omega) hj, b1_s, if_neg (by decide), ck_ok rfl (show j < 36 by omega) (by decide), nI_clamp (n := j) (by omega), q3, lt_e, w_size q1 q2]
      rfl
    case e2 =>
      unfold F_X11_step F_X11_step_0
      rw [e5, k3, in_yes (by omega) hj, ck_lit (i := 5) (n := 1600) (by decide), b1_s, if_neg (by decide), e8, ck_ok rfl (show 848 + j < 1600 by omega) (by decide), lt_e, nI_clamp (n := 848 + j) (by omega), q4]
      exact s1
set_option maxHeartbeats 1000000 in
theorem sim_laws : Sim_laws Rel := by
  intro wc ak fi kwd kou kga klc klt klw kLc kLf kLh kLi kLk kLK kLN kLY kMc kMf kSc kSr kSk kSn kSy kTc kTo kTO kTp wd ou ga lc lt lw Lc Lf Lh Li Lk LK LN LY Mc Mf Sc Sr Sk Sn Sy Tc To TO Tp wt f_row_count f_row_law isK wts mfi now mkept mwt m_many m_line m_row z0 hR
  obtain ⟨hW, hK, hF, hS⟩ := hR
  subst hF
  have hS0 := hS
  obtain ⟨ns, nl, nt, nm, hC, hSn, hL, hT, hM, ⟨r, hw⟩, hO, hLt, hG⟩ := hS
  obtain ⟨n0, n1, n2, n3, rfl, rfl, rfl, rfl, bb0, bb1, bb2, bb3⟩ := hC
  rcases ix_c z0 (n := nt) (by omega) with h | ⟨j, hj, rfl⟩
  · iterate 8 apply Exists.intro
    refine ⟨?e1, ?e2, hW, hK, ?e5, ?e3⟩
    case e1 => unfold F_X10_laws F_X10_laws_0; rw [has7, has_no h]; rfl
    case e2 => unfold F_X11_laws F_X11_laws_0; rw [is2_no n2 (by omega) h]; rfl
    case e5 => rfl
    case e3 => exact hS0
  · obtain ⟨law', c1, c2⟩ := c_fill hT.1 hT.2 hj f_row_count f_row_law
    obtain ⟨line', row', d1, d2⟩ := m_findLaws hT.1 hj m_many m_line m_row
    iterate 8 apply Exists.intro
    refine ⟨?e1, ?e2, hW, hK, ?e5, ?e3⟩
    case e1 => unfold F_X10_laws F_X10_laws_0; rw [has7, has_yes (by omega) hj, b1_s, if_neg (by decide), c1]; rfl
    case e2 => unfold F_X11_laws F_X11_laws_0; rw [is2_yes n2 (by omega) hj, b1_s, if_neg (by decide), d1]; rfl
    case e5 => rfl
    case e3 => exact hS0
set_option maxHeartbeats 1000000 in
theorem sim_lawAt : Sim_lawAt Rel := by
  intro wc ak fi kwd kou kga klc klt klw kLc kLf kLh kLi kLk kLK kLN kLY kMc kMf kSc kSr kSk kSn kSy kTc kTo kTO kTp wd ou ga lc lt lw Lc Lf Lh Li Lk LK LN LY Mc Mf Sc Sr Sk Sn Sy Tc To TO Tp wt f_row_count f_row_law isK wts mfi now mkept mwt m_many m_line m_row z0 z1 hR
  obtain ⟨hW, hK, hF, hS⟩ := hR
  subst hF
  have hS0 := hS
  obtain ⟨ns, nl, nt, nm, hC, hSn, hL, hT, hM, ⟨r, hw⟩, hO, hLt, hG⟩ := hS
  obtain ⟨n0, n1, n2, n3, rfl, rfl, rfl, rfl, bb0, bb1, bb2, bb3⟩ := hC
  rcases ix_c z0 (n := nt) (by omega) with h | ⟨j, hj, rfl⟩
  · iterate 8 apply Exists.intro
    refine ⟨?e1, ?e2, hW, hK, ?e5, ?e3⟩
    case e1 => unfold F_X10_lawAt F_X10_lawAt_0; rw [has7, has_no h]; rfl
    case e2 => unfold F_X11_lawAt F_X11_lawAt_0; rw [is2_no n2 (by omega) h]; rfl
    case e5 => rfl
    case e3 => exact hS0
  · obtain ⟨law', c1, c2⟩ := c_fill hT.1 hT.2 hj f_row_count f_row_law
    obtain ⟨line', row', d1, d2⟩ := m_findLaws hT.1 hj m_many m_line m_row
    have hlen := rows_len hT.1 j hj
    rcases ix_c z1 (n := (rows now j).length) (by omega) with h | ⟨k, hk, rfl⟩
    · iterate 8 apply Exists.intro
      refine ⟨?e1, ?e2, hW, hK, ?e5, ?e3⟩
      case e1 =>
        unfold F_X10_lawAt F_X10_lawAt_0 F_X10_lawAt_56
        rw [has7, has_yes (by omega) hj, b1_s, if_neg (by decide), c1, b2_s]
        by_cases c3 : z1 < 0
        · rw [if_pos c3]; rfl
        · rw [if_neg c3, if_neg (fun h3 => (fa_of_lt h3).2.1 (h.resolve_left c3))]; rfl
      case e2 => unfold F_X11_lawAt F_X11_lawAt_0; rw [is2_yes n2 (by omega) hj, b1_s, if_neg (by decide), d1]; exact (show bn1_ (F_X11_in z1 0 (nI (rows now j).length - 1)) _ = _ by rw [in_no (by omega) h]; rfl)
      case e5 => rfl
      case e3 => exact hS0
    · iterate 8 apply Exists.intro
      refine ⟨?e1, ?e2, hW, hK, ?e5, ?e3⟩
      case e1 =>
        unfold F_X10_lawAt F_X10_lawAt_0
        rw [has7, has_yes (by omega) hj, b1_s, if_neg (by decide), c1, b2_s, if_neg (nI_pos (by omega)), if_pos (nI_lt hk (by omega)), ck_ok rfl (show k < 36 by omega) (by decide), nI_clamp (n := k) (by omega), c2 k hk]
      case e2 => unfold F_X11_lawAt F_X11_lawAt_0; rw [is2_yes n2 (by omega) hj, b1_s, if_neg (by decide), d1]; exact (show bn1_ (F_X11_in (nI k) 0 (nI (rows now j).length - 1)) _ = _ by rw [in_yes (by omega) hk, b1_s, if_neg (by decide), ck_ok rfl (show k < 36 by omega) (by decide), nI_clamp (n := k) (by omega), d2 k hk])
      case e5 => rfl
      case e3 => exact hS0
