/-! the small calls: words, marks -/
theorem c_isOf {Sk : Nat → Int32} {q : Nat} (hq : q < 8) (k : Int32) : F_X5_isOf (nI q) k Sk = some (b2 (isofb (Sk q) k)) := by
  unfold F_X5_isOf F_X5_isOf_0 F_X5_isOf_26 F_X5_isOf_36 isofb
  rw [ck_ok rfl hq (by decide), lt_e, nI_clamp (n := q) (by omega)]
  by_cases c0 : k = 0
  · rw [if_pos c0]; simp [c0, b2]
  · rw [if_neg c0]
    by_cases c1 : k = Sk q
    · rw [if_pos c1]; simp [c1, b2]
    · have c1' : ¬ Sk q = k := fun h => c1 h.symm
      rw [if_neg c1]
      by_cases c2 : k = 1
      · rw [if_pos c2]
        by_cases c3 : Sk q = 2
        · rw [if_pos c3]; simp [c2, c3, b2]
        · rw [if_neg c3, if_neg (by rw [c2]; decide)]
          have : ¬ Sk q = 1 := by rw [← c2]; exact c1'
          simp [c2, c3, this, b2]
      · rw [if_neg c2]
        by_cases c4 : k = 3
        · rw [if_pos c4]
          by_cases c5 : Sk q = 4
          · rw [if_pos c5]; simp [c4, c5, b2]
          · rw [if_neg c5]
            have : ¬ Sk q = 3 := by rw [← c4]; exact c1'
            simp [c4, c5, this, b2]
        · rw [if_neg c4]; simp [c0, c1', c2, c4, b2]
set_option maxHeartbeats 1000000 in
theorem sim_hush : Sim_hush Rel := by
  intro wc ak fi kwd kou kga klc klt klw kLc kLf kLh kLi kLk kLK kLN kLY kMc kMf kSc kSr kSk kSn kSy kTc kTo kTO kTp wd ou ga lc lt lw Lc Lf Lh Li Lk LK LN LY Mc Mf Sc Sr Sk Sn Sy Tc To TO Tp wt isK wts mfi now mkept mwt hR
  obtain ⟨hW, hK, hF, hS⟩ := hR
  subst hF
  have hS0 := hS
  obtain ⟨ns, nl, nt, nm, hC, hSn, hL, hT, hM, ⟨r, hw⟩, hO, hLt, hG⟩ := hS
  obtain ⟨n0, n1, n2, n3, rfl, rfl, rfl, rfl, bb0, bb1, bb2, bb3⟩ := hC
  obtain ⟨r1, r2, r3, r4, r5⟩ := hw
  have hsz : F_X9_size wd = some (nI r.length) := by rw [r3]; exact w_size (dn_dg r1 bb0) (by omega)
  have hn : ∀ i, i ≠ 4 → upd now 4 0 i = now i := fun i hi => pk_un hi
  refine ⟨nI r.length, 1, upd now 4 0, ?e1, ?e2, hW, hK, rfl, ns, nl, nt, nm, ⟨(hn 0 (by omega)).trans n0, (hn 1 (by omega)).trans n1, (hn 2 (by omega)).trans n2, (hn 3 (by omega)).trans n3, rfl, rfl, rfl, rfl, bb0, bb1, bb2, bb3⟩, SN_c bb0 (fun i h4 h5 => hn i (by omega)) hSn, LL_c (fun i h4 h5 => hn i (by omega)) hL, TT_c (fun i h4 h5 => hn i (by omega)) hT, MN_c bb3 (fun i h4 h5 => hn i (by omega)) hM, ⟨[], dn_nil, Nat.zero_le _, rfl, pk_us, fun i hi => absurd hi (Nat.not_lt_zero i)⟩, OC_c (hn 7 (by omega)) (fun i h4 h5 => hn i (by omega)) hO, LT_c (hn 5 (by omega)) (fun i h4 h5 => hn i (by omega)) hLt, GP_c (hn 6 (by omega)) hG⟩
  case e1 => unfold F_X10_hush F_X10_hush_0; rw [hsz]; rfl
  case e2 => unfold F_X11_hush F_X11_hush_0; rw [show (4 : Int32).toNatClampNeg = 4 by decide, r4]; rfl
set_option maxHeartbeats 1000000 in
theorem sim_say : Sim_say Rel := by
  intro wc ak fi kwd kou kga klc klt klw kLc kLf kLh kLi kLk kLK kLN kLY kMc kMf kSc kSr kSk kSn kSy kTc kTo kTO kTp wd ou ga lc lt lw Lc Lf Lh Li Lk LK LN LY Mc Mf Sc Sr Sk Sn Sy Tc To TO Tp wt isK wts mfi now mkept mwt z0 hR
  obtain ⟨hW, hK, hF, hS⟩ := hR
  subst hF
  have hS0 := hS
  obtain ⟨ns, nl, nt, nm, hC, hSn, hL, hT, hM, ⟨r, hw⟩, hO, hLt, hG⟩ := hS
  obtain ⟨n0, n1, n2, n3, rfl, rfl, rfl, rfl, bb0, bb1, bb2, bb3⟩ := hC
  obtain ⟨r1, r2, r3, r4, r5⟩ := hw
  have hdg := dn_dg r1 bb0
  have hsz : F_X9_size wd = some (nI r.length) := by rw [r3]; exact w_size hdg (by omega)
  rcases ix_c z0 (n := ns) (by omega) with h | ⟨j, hj, rfl⟩
  · iterate 5 apply Exists.intro
    refine ⟨?e1, ?e2, hW, hK, ?e5, ?e3⟩
    case e1 => unfold F_X10_say F_X10_say_0; rw [has_no h]; rfl
    case e2 => unfold F_X11_say F_X11_say_0; rw [is0_no n0 (by omega) h]; rfl
    case e5 => rfl
    case e3 => exact hS0
  · by_cases c : r.length = 8
    · iterate 5 apply Exists.intro
      refine ⟨?e1, ?e2, hW, hK, ?e5, ?e3⟩
      case e1 => unfold F_X10_say F_X10_say_0; rw [has_yes (by omega) hj, hsz, c]; rfl
      case e2 => unfold F_X11_say F_X11_say_0; rw [is0_yes n0 (by omega) hj, show (4 : Int32).toNatClampNeg = 4 by decide, r4, c]; rfl
      case e5 => rfl
      case e3 => exact hS0
    · have e8 : (800 : Int32) + nI r.length = nI (800 + r.length) := nI_add 800 r.length
      have hc : ¬ nI r.length = 8 := fun q => c ((e8_ (by omega)).mp q)
      have hd1 : dg (j :: r) := dg_cons.mpr ⟨by omega, hdg⟩
      have hn : ∀ i, i ≠ 4 ∧ i ≠ 800 + r.length → upd (upd now (800 + r.length) (nI j)) 4 (nI (r.length + 1)) i = now i := fun i hi => by rw [pk_un hi.1, pk_un hi.2]
      have hx : arr (fun i => upd (upd now (800 + r.length) (nI j)) 4 (nI (r.length + 1)) (800 + i)) (j :: r).reverse := by
        refine arr_of (arr_push (s := j) r5) (fun i hi => ?_)
        by_cases ci : i = r.length
        · subst ci
          show upd (upd now (800 + r.length) (nI j)) 4 (nI (r.length + 1)) (800 + r.length) = _
          rw [pk_un (by omega), pk_us, pk_us]
        · show upd (upd now (800 + r.length) (nI j)) 4 (nI (r.length + 1)) (800 + i) = _
          rw [pk_un (by omega), pk_un (by omega), pk_un ci]
      refine ⟨nI (r.length + 1), fi, wl (j :: r), fi, upd (upd now (800 + r.length) (nI j)) 4 (nI (r.length + 1)), ?e1, ?e2, hW, hK, rfl, ns, nl, nt, nm, ⟨(hn 0 (by omega)).trans n0, (hn 1 (by omega)).trans n1, (hn 2 (by omega)).trans n2, (hn 3 (by omega)).trans n3, rfl, rfl, rfl, rfl, bb0, bb1, bb2, bb3⟩, SN_c bb0 (fun i h4 h5 => hn i (by omega)) hSn, LL_c (fun i h4 h5 => hn i (by omega)) hL, TT_c (fun i h4 h5 => hn i (by omega)) hT, MN_c bb3 (fun i h4 h5 => hn i (by omega)) hM, ⟨j :: r, dn_cons.mpr ⟨hj, r1⟩, by rw [List.length_cons]; omega, rfl, pk_us, hx⟩, OC_c (hn 7 (by omega)) (fun i h4 h5 => hn i (by omega)) hO, LT_c (hn 5 (by omega)) (fun i h4 h5 => hn i (by omega)) hLt, GP_c (hn 6 (by omega)) hG⟩
      case e1 =>
        unfold F_X10_say F_X10_say_0
        rw [has_yes (by omega) hj, b1_s, if_neg (by decide), hsz, b1_s, if_neg hc, r3, w_add hd1 (by omega), b1_s, lt_e, w_size hd1 (by rw [List.length_cons]; omega), b1_s]
        rfl
      case e2 =>
        unfold F_X11_say F_X11_say_0
        rw [is0_yes n0 (by omega) hj, b1_s, if_neg (by decide), show (4 : Int32) = nI 4 from rfl, ck_ok rfl (show 4 < 1600 by decide) (by decide), lt_e, nI_clamp (n := 4) (by decide), r4, if_neg hc, e8, ck_ok rfl (show 800 + r.length < 1600 by omega) (by decide), lt_e, ck_ok rfl (show 4 < 1600 by decide) (by decide), lt_e, nI_1, nI_clamp (n := 800 + r.length) (by omega)]
set_option maxHeartbeats 1000000 in
theorem sim_result : Sim_result Rel := by
  intro wc ak fi kwd kou kga klc klt klw kLc kLf kLh kLi kLk kLK kLN kLY kMc kMf kSc kSr kSk kSn kSy kTc kTo kTO kTp wd ou ga lc lt lw Lc Lf Lh Li Lk LK LN LY Mc Mf Sc Sr Sk Sn Sy Tc To TO Tp wt isK wts mfi now mkept mwt z0 hR
  obtain ⟨hW, hK, hF, hS⟩ := hR
  subst hF
  have hS0 := hS
  obtain ⟨ns, nl, nt, nm, hC, hSn, hL, hT, hM, ⟨r, hw⟩, hO, hLt, hG⟩ := hS
  obtain ⟨n0, n1, n2, n3, rfl, rfl, rfl, rfl, bb0, bb1, bb2, bb3⟩ := hC
  obtain ⟨q, q1, q2, q3, q4, q5⟩ := hO
  have hsz : F_X9_size ou = some (nI q.length) := by rw [q3]; exact w_size q1 q2
  have e7 : (7 : Int32).toNatClampNeg = 7 := by decide
  by_cases c : z0 = -1
  · iterate 3 apply Exists.intro
    refine ⟨?e1, ?e2, hW, hK, ?e5, ?e3⟩
    case e1 => unfold F_X10_result F_X10_result_0; rw [hsz, b1_s, if_pos c]
    case e2 => unfold F_X11_result F_X11_result_0; rw [if_pos c, e7, q4]; rfl
    case e5 => rfl
    case e3 => exact hS0
  · rcases ix_c z0 (n := q.length) (by omega) with h | ⟨j, hj, rfl⟩
    · iterate 3 apply Exists.intro
      refine ⟨?e1, ?e2, hW, hK, ?e5, ?e3⟩
      case e1 =>
        unfold F_X10_result F_X10_result_0 F_X10_result_27
        rw [hsz, b1_s, if_neg c]
        by_cases c2 : z0 < 0
        · rw [if_pos c2]; rfl
        · rw [if_neg c2, if_neg (fun h3 => (fa_of_lt h3).2.1 (h.resolve_left c2))]; rfl
      case e2 => unfold F_X11_result F_X11_result_0; rw [if_neg c, e7, q4, in_no (by omega) h]; rfl
      case e5 => rfl
      case e3 => exact hS0
    · have e8 : (816 : Int32) + nI j = nI (816 + j) := nI_add 816 j
      have hr : now (816 + j) = nI (q.reverse.getD j 0) := q5 j (by rw [List.length_reverse]; exact hj)
      have hg : q.getD (q.length - 1 - j) 0 = q.reverse.getD j 0 := by
        rw [List.getD_eq_getElem?_getD, List.getD_eq_getElem?_getD, List.getElem?_reverse hj]
      iterate 3 apply Exists.intro
      refine ⟨?e1, ?e2, hW, hK, ?e5, ?e3⟩
      case e1 =>
        unfold F_X10_result F_X10_result_0
        rw [hsz, b1_s, if_neg c, if_neg (nI_pos (by omega)), if_pos (nI_lt hj (by omega)), q3, w_at q1 q2 hj, b1_s, hg]
      case e2 => unfold F_X11_result F_X11_result_0; rw [if_neg c, e7, q4, in_yes (by omega) hj, e8]; exact (show ck_ (7 : Int32) 1600 (ck_ (nI (816 + j)) 1600 (some (now (nI (816 + j)).toNatClampNeg, fi))) = _ by rw [ck_lit (i := 7) (n := 1600) (by decide), ck_ok rfl (show 816 + j < 1600 by omega) (by decide), nI_clamp (n := 816 + j) (by omega), hr])
      case e5 => rfl
      case e3 => exact hS0
set_option maxHeartbeats 1000000 in
theorem sim_places : Sim_places Rel := by
  intro wc ak fi kwd kou kga klc klt klw kLc kLf kLh kLi kLk kLK kLN kLY kMc kMf kSc kSr kSk kSn kSy kTc kTo kTO kTp wd ou ga lc lt lw Lc Lf Lh Li Lk LK LN LY Mc Mf Sc Sr Sk Sn Sy Tc To TO Tp wt isK wts mfi now mkept mwt z0 hR
  obtain ⟨hW, hK, hF, hS⟩ := hR
  subst hF
  have hS0 := hS
  obtain ⟨ns, nl, nt, nm, hC, hSn, hL, hT, hM, ⟨r, hw⟩, hO, hLt, hG⟩ := hS
  obtain ⟨n0, n1, n2, n3, rfl, rfl, rfl, rfl, bb0, bb1, bb2, bb3⟩ := hC
  obtain ⟨k, k1, k2, k3, k4⟩ := hLt
  have e5 : (5 : Int32).toNatClampNeg = 5 := by decide
  rcases ix_c z0 (n := k) (by omega) with h | ⟨j, hj, rfl⟩
  · iterate 3 apply Exists.intro
    refine ⟨?e1, ?e2, hW, hK, ?e5, ?e3⟩
    case e1 => unfold F_X10_places F_X10_places_0; rw [k2, has3, has_no h]; rfl
    case e2 => unfold F_X11_places F_X11_places_0; rw [e5, k3, in_no (by omega) h]; rfl
    case e5 => rfl
    case e3 => exact hS0
  · have e8 : (896 : Int32) + nI j = nI (896 + j) := nI_add 896 j
    iterate 3 apply Exists.intro
    refine ⟨?e1, ?e2, hW, hK, ?e5, ?e3⟩
    case e1 => unfold F_X10_places F_X10_places_0; rw [k2, has3, has_yes (by omega) hj, b1_s, if_neg (by decide), ck_ok rfl (show j < 36 by omega) (by decide), nI_clamp (n := j) (by omega), (k4 j hj).1]
    case e2 => unfold F_X11_places F_X11_places_0; rw [e5, k3, in_yes (by omega) hj, ck_lit (i := 5) (n := 1600) (by decide), b1_s, if_neg (by decide), e8, ck_ok rfl (show 896 + j < 1600 by omega) (by decide), nI_clamp (n := 896 + j) (by omega)]
    case e5 => rfl
    case e3 => exact hS0
set_option maxHeartbeats 1000000 in
theorem sim_as : Sim_as Rel := by
  intro wc ak fi kwd kou kga klc klt klw kLc kLf kLh kLi kLk kLK kLN kLY kMc kMf kSc kSr kSk kSn kSy kTc kTo kTO kTp wd ou ga lc lt lw Lc Lf Lh Li Lk LK LN LY Mc Mf Sc Sr Sk Sn Sy Tc To TO Tp wt isK wts mfi now mkept mwt z0 z1 hR
  obtain ⟨hW, hK, hF, hS⟩ := hR
  subst hF
  have hS0 := hS
  obtain ⟨ns, nl, nt, nm, hC, hSn, hL, hT, hM, ⟨r, hw⟩, hO, hLt, hG⟩ := hS
  obtain ⟨n0, n1, n2, n3, rfl, rfl, rfl, rfl, bb0, bb1, bb2, bb3⟩ := hC
  rcases ix_c z0 (n := ns) (by omega) with h | ⟨j, hj, rfl⟩
  · iterate 3 apply Exists.intro
    refine ⟨?e1, ?e2, hW, hK, ?e5, ?e3⟩
    case e1 => unfold F_X10_as F_X10_as_0 F_X10_as_21; rw [has_no h]; rfl
    case e2 => unfold F_X11_as F_X11_as_0 F_X11_as_17; rw [is0_no n0 (by omega) h]; rfl
    case e5 => rfl
    case e3 => exact hS0
  · have hk : F_X5_isKind z1 = F_X11_in z1 0 4 := rfl
    obtain ⟨k, y, n, p1, p2, p3, p4, p5, p6, p7, p8, p9, p10, p11⟩ := hSn.2 j hj
    rcases in_c z1 0 4 with ⟨h1, h2⟩ | ⟨h1, h2, h3⟩
    · iterate 3 apply Exists.intro
      refine ⟨?e1, ?e2, hW, hK, ?e5, ?e3⟩
      case e1 => unfold F_X10_as F_X10_as_0 F_X10_as_21; rw [has_yes (by omega) hj, b1_s, if_neg (by decide), hk, h1]; rfl
      case e2 => unfold F_X11_as F_X11_as_0 F_X11_as_17; rw [is0_yes n0 (by omega) hj, b1_s, if_neg (by decide), h1]; rfl
      case e5 => rfl
      case e3 => exact hS0
    · have e1 : F_X10_as (nI j) z1 fi (nI ns) Sk = if b2 (isofb (nI k) z1) = 0 then some (-4, fi + 1) else some (nI j, fi) := by
        unfold F_X10_as F_X10_as_0
        rw [has_yes (by omega) hj, b1_s, if_neg (by decide), hk, h1, b1_s, if_neg (by decide), c_isOf (by omega), b1_s, p8]
        rfl
      have e2 : F_X11_as (nI j) z1 fi now = if b2 (isofb (nI k) z1) = 0 then some (-4, fi + 1) else some (nI j, fi) := by
        unfold F_X11_as F_X11_as_0
        rw [is0_yes n0 (by omega) hj, b1_s, if_neg (by decide), h1, b1_s, if_neg (by decide), m_isOf (by omega), b1_s, p5]
        rfl
      rw [e1, e2]
      by_cases c : b2 (isofb (nI k) z1) = 0
      · rw [if_pos c]
        exact ⟨_, _, _, rfl, rfl, hW, hK, rfl, hS0⟩
      · rw [if_neg c]
        exact ⟨_, _, _, rfl, rfl, hW, hK, rfl, hS0⟩
set_option maxHeartbeats 1000000 in
theorem sim_mark : Sim_mark Rel := by
  intro wc ak fi kwd kou kga klc klt klw kLc kLf kLh kLi kLk kLK kLN kLY kMc kMf kSc kSr kSk kSn kSy kTc kTo kTO kTp wd ou ga lc lt lw Lc Lf Lh Li Lk LK LN LY Mc Mf Sc Sr Sk Sn Sy Tc To TO Tp wt isK wts mfi now mkept mwt z0 z1 hR
  obtain ⟨hW, hK, hF, hS⟩ := hR
  subst hF
  have hS0 := hS
  obtain ⟨ns, nl, nt, nm, hC, hSn, hL, hT, hM, ⟨r, hw⟩, hO, hLt, hG⟩ := hS
  obtain ⟨n0, n1, n2, n3, rfl, rfl, rfl, rfl, bb0, bb1, bb2, bb3⟩ := hC
  rcases ix_c z0 (n := ns) (by omega) with h | ⟨j, hj, rfl⟩
  · iterate 3 apply Exists.intro
    refine ⟨?e1, ?e2, hW, hK, ?e5, ?e3⟩
    case e1 => unfold F_X10_mark F_X10_mark_0; rw [has_no h]; rfl
    case e2 => unfold F_X11_mark F_X11_mark_0; rw [is0_no n0 (by omega) h]; rfl
    case e5 => rfl
    case e3 => exact hS0
  · obtain ⟨k, y, n, p1, p2, p3, p4, p5, p6, p7, p8, p9, p10, p11⟩ := hSn.2 j hj
    have e40 : (40 : Int32) + nI j = nI (40 + j) := nI_add 40 j
    have e24 : (24 : Int32) + nI j = nI (24 + j) := nI_add 24 j
    have e32 : (32 : Int32) + nI j = nI (32 + j) := nI_add 32 j
    rcases p11 with ⟨q1, q2⟩ | ⟨q1, q2⟩
    · iterate 3 apply Exists.intro
      refine ⟨?e1, ?e2, hW, hK, ?e5, ?e3⟩
      case e1 => unfold F_X10_mark F_X10_mark_0; rw [has_yes (by omega) hj, b1_s, if_neg (by decide), q1]; rfl
      case e2 => unfold F_X11_mark F_X11_mark_0; rw [is0_yes n0 (by omega) hj, b1_s, if_neg (by decide), e40, ck_ok rfl (show 40 + j < 1600 by omega) (by decide), nI_clamp (n := 40 + j) (by omega), q2]; rfl
      case e5 => rfl
      case e3 => exact hS0
    · rcases in_c z1 0 7 with ⟨h1, h2⟩ | ⟨h1, h2, h3⟩
      · iterate 3 apply Exists.intro
        refine ⟨?e1, ?e2, hW, hK, ?e5, ?e3⟩
        case e1 =>
          unfold F_X10_mark F_X10_mark_0 F_X10_mark_51
          rw [has_yes (by omega) hj, b1_s, if_neg (by decide), q1, b1_s, if_pos rfl]
          by_cases c : z1 < 0
          · rw [if_pos c]; rfl
          · have c2 : ¬ z1 < 8 := by
              have h4 := h2.resolve_left c
              rw [fa_lt] at h4 ⊢
              have e7 : (7 : Int32).toInt = 7 := by decide
              have e8 : (8 : Int32).toInt = 8 := by decide
              omega
            rw [if_neg c, if_neg c2]; rfl
        case e2 => unfold F_X11_mark F_X11_mark_0; rw [is0_yes n0 (by omega) hj, b1_s, if_neg (by decide), e40, ck_ok rfl (show 40 + j < 1600 by omega) (by decide), nI_clamp (n := 40 + j) (by omega), q2, if_neg (by decide), h1]; rfl
        case e5 => rfl
        case e3 => exact hS0
      · have c2 : z1 < 8 := by
          rw [fa_lt] at h3 ⊢
          have e7 : (7 : Int32).toInt = 7 := by decide
          have e8 : (8 : Int32).toInt = 8 := by decide
          omega
        have e1 : F_X10_mark (nI j) z1 fi (nI ns) Sr Sn Sy = if (nI y >>> (z1 &&& 31)) &&& 1 = 1 then some (1, fi) else if (nI n >>> (z1 &&& 31)) &&& 1 = 1 then some (0, fi) else some (2, fi) := by
          unfold F_X10_mark F_X10_mark_0 F_X5_markOf F_X5_markOf_0
          rw [has_yes (by omega) hj, b1_s, if_neg (by decide), q1, b1_s, if_pos rfl, if_neg h2, if_pos c2, ck_ok rfl (show j < 8 by omega) (by decide), ck_ok rfl (show j < 8 by omega) (by decide), nI_clamp (n := j) (by omega), p9, p10]
          by_cases c3 : (nI y >>> (z1 &&& 31)) &&& 1 = 1
          · rw [if_pos c3, if_pos c3]; rfl
          · rw [if_neg c3, if_neg c3]
            by_cases c4 : (nI n >>> (z1 &&& 31)) &&& 1 = 1
            · rw [if_pos c4, if_pos c4]; rfl
            · rw [if_neg c4, if_neg c4]; rfl
        have e2 : F_X11_mark (nI j) z1 fi now = if (nI y >>> (z1 &&& 31)) &&& 1 = 1 then some (1, fi) else if (nI n >>> (z1 &&& 31)) &&& 1 = 1 then some (0, fi) else some (2, fi) := by
          unfold F_X11_mark F_X11_mark_0
          rw [is0_yes n0 (by omega) hj, b1_s, if_neg (by decide), e40, e24, e32, ck_ok rfl (show 40 + j < 1600 by omega) (by decide), nI_clamp (n := 40 + j) (by omega), q2, if_neg (by decide), h1, b1_s, if_neg (by decide), ck_ok rfl (show 24 + j < 1600 by omega) (by decide), nI_clamp (n := 24 + j) (by omega), ck_ok rfl (show 32 + j < 1600 by omega) (by decide), nI_clamp (n := 32 + j) (by omega), p6, p7]
        rw [e1, e2]
        by_cases c3 : (nI y >>> (z1 &&& 31)) &&& 1 = 1
        · rw [if_pos c3]
          exact ⟨_, _, _, rfl, rfl, hW, hK, rfl, hS0⟩
        · rw [if_neg c3]
          by_cases c4 : (nI n >>> (z1 &&& 31)) &&& 1 = 1
          · rw [if_pos c4]
            exact ⟨_, _, _, rfl, rfl, hW, hK, rfl, hS0⟩
          · rw [if_neg c4]
            exact ⟨_, _, _, rfl, rfl, hW, hK, rfl, hS0⟩
