/-! the small calls -/
theorem cl_lit {x : Int32} {n : Nat} (h : x = nI n) (hn : n < 2 ^ 31) : x.toNatClampNeg = n := by rw [h, nI_clamp hn]
theorem ck_lit {β : Type} {i : Int32} {n : Nat} {X : Option β} (h : ¬ (i < 0 ∨ n ≤ i.toNatClampNeg)) : ck_ i n X = X := if_neg h
set_option maxHeartbeats 1000000 in
theorem sim_put : Sim_put Rel := by
  intro wc ak fi kwd kou kga klc klt klw kLc kLf kLh kLi kLk kLK kLN kLY kMc kMf kSc kSr kSk kSn kSy kTc kTo kTO kTp wd ou ga lc lt lw Lc Lf Lh Li Lk LK LN LY Mc Mf Sc Sr Sk Sn Sy Tc To TO Tp wt isK wts mfi now mkept mwt z0 hR
  obtain ⟨hW, hK, hF, hS⟩ := hR
  subst hF
  have hS0 := hS
  obtain ⟨ns, nl, nt, nm, hC, hSn, hL, hT, hM, ⟨r, hw⟩, hO, hLt, hG⟩ := hS
  obtain ⟨n0, n1, n2, n3, rfl, rfl, rfl, rfl, bb0, bb1, bb2, bb3⟩ := hC
  obtain ⟨rfl, rfl, w, w1, w2⟩ := hW
  by_cases c : w = 300
  · have c' : wc = 300 := by rw [w2, c]; rfl
    refine ⟨-3, wc, fi + 1, wt, wc, fi + 1, wt, ?e1, ?e2, ⟨rfl, rfl, w, w1, w2⟩, hK, rfl, hS0⟩
    case e1 => unfold F_X10_put F_X10_put_0; rw [if_pos c']; rfl
    case e2 => unfold F_X11_put F_X11_put_0; rw [if_pos c']; rfl
  · have c' : ¬ wc = 300 := by rw [w2]; exact fun q => c ((nI_eq (b := 300) (by omega) (by decide)).mp q)
    refine ⟨wc + 1, wc + 1, fi, upd wt w z0, wc + 1, fi, upd wt w z0, ?e1, ?e2, ⟨rfl, rfl, w + 1, by omega, by rw [w2, nI_1]⟩, hK, rfl, hS0⟩
    case e1 => unfold F_X10_put F_X10_put_0; rw [if_neg c', ck_ok w2 (show w < 300 by omega) (by decide), lt_e, lt_e, cl_lit w2 (by omega)]
    case e2 => unfold F_X11_put F_X11_put_0; rw [if_neg c', ck_ok w2 (show w < 300 by omega) (by decide), lt_e, lt_e, cl_lit w2 (by omega)]
set_option maxHeartbeats 1000000 in
theorem sim_cost : Sim_cost Rel := by
  intro wc ak fi kwd kou kga klc klt klw kLc kLf kLh kLi kLk kLK kLN kLY kMc kMf kSc kSr kSk kSn kSy kTc kTo kTO kTp wd ou ga lc lt lw Lc Lf Lh Li Lk LK LN LY Mc Mf Sc Sr Sk Sn Sy Tc To TO Tp wt isK wts mfi now mkept mwt z0 hR
  obtain ⟨hW, hK, hF, hS⟩ := hR
  subst hF
  have hS0 := hS
  obtain ⟨ns, nl, nt, nm, hC, hSn, hL, hT, hM, ⟨r, hw⟩, hO, hLt, hG⟩ := hS
  obtain ⟨n0, n1, n2, n3, rfl, rfl, rfl, rfl, bb0, bb1, bb2, bb3⟩ := hC
  obtain ⟨g, g1, g2, g3⟩ := hG
  have ei : F_X10_cost z0 fi ga = bn1_ (F_X11_in z0 0 99) (fun y => if y = 0 then some (-1, fi + 1, ga) else some (ga, fi, z0)) := by
    unfold F_X10_cost F_X10_cost_0 F_X10_cost_10 F_X11_in F_X11_in_0
    by_cases c : z0 < 0
    · rw [if_pos c, if_pos c]; rfl
    · rw [if_neg c, if_neg c]
      by_cases c2 : z0 ≤ 99
      · have : ¬ (99 : Int32) < z0 := (fun q => (fa_of_lt q).2.1 c2)
        rw [if_pos c2, if_neg this]; rfl
      · rw [if_neg c2, if_pos (fa_of_nle c2)]; rfl
  rcases in_c z0 0 99 with ⟨h1, h2⟩ | ⟨h1, h2, h3⟩
  · iterate 5 apply Exists.intro
    refine ⟨?e1, ?e2, hW, hK, ?e5, ?e3⟩
    case e1 => rw [ei, h1]; rfl
    case e2 => unfold F_X11_cost F_X11_cost_0; rw [h1]; rfl
    case e5 => rfl
    case e3 => exact hS0
  · obtain ⟨j, hj, rfl⟩ := in_n (b := 99) (m := 99) rfl (by decide) h2 h3
    have e6 : (6 : Int32).toNatClampNeg = 6 := by decide
    have hn : ∀ i, i ≠ 6 → upd now 6 (nI j) i = now i := fun i hi => pk_un hi
    refine ⟨ga, fi, nI j, fi, upd now 6 (nI j), ?e1, ?e2, hW, hK, rfl, ns, nl, nt, nm, ⟨(hn 0 (by omega)).trans n0, (hn 1 (by omega)).trans n1, (hn 2 (by omega)).trans n2, (hn 3 (by omega)).trans n3, rfl, rfl, rfl, rfl, bb0, bb1, bb2, bb3⟩, SN_c bb0 (fun i h4 h5 => hn i (by omega)) hSn, LL_c (fun i h4 h5 => hn i (by omega)) hL, TT_c (fun i h4 h5 => hn i (by omega)) hT, MN_c bb3 (fun i h4 h5 => hn i (by omega)) hM, ⟨r, WDr_c (hn 4 (by omega)) (fun i h4 h5 => hn i (by omega)) hw⟩, OC_c (hn 7 (by omega)) (fun i h4 h5 => hn i (by omega)) hO, LT_c (hn 5 (by omega)) (fun i h4 h5 => hn i (by omega)) hLt, j, hj, rfl, pk_us⟩
    case e1 => rw [ei, h1]; rfl
    case e2 => unfold F_X11_cost F_X11_cost_0; rw [h1, e6, g3, g2]; rfl
set_option maxHeartbeats 1000000 in
theorem sim_told : Sim_told Rel := by
  intro wc ak fi kwd kou kga klc klt klw kLc kLf kLh kLi kLk kLK kLN kLY kMc kMf kSc kSr kSk kSn kSy kTc kTo kTO kTp wd ou ga lc lt lw Lc Lf Lh Li Lk LK LN LY Mc Mf Sc Sr Sk Sn Sy Tc To TO Tp wt isK wts mfi now mkept mwt z0 hR
  obtain ⟨hW, hK, hF, hS⟩ := hR
  subst hF
  have hS0 := hS
  obtain ⟨ns, nl, nt, nm, hC, hSn, hL, hT, hM, ⟨r, hw⟩, hO, hLt, hG⟩ := hS
  obtain ⟨n0, n1, n2, n3, rfl, rfl, rfl, rfl, bb0, bb1, bb2, bb3⟩ := hC
  obtain ⟨rfl, rfl, w, w1, w2⟩ := hW
  obtain ⟨r1, r2, r3, r4, r5⟩ := hw
  obtain ⟨k, k1, k2, k3, k4⟩ := hLt
  have hsz : F_X9_size wd = some (nI r.length) := by rw [r3]; exact w_size (dn_dg r1 bb0) (by omega)
  by_cases c0 : z0 = 0
  · refine ⟨nI ns, fi, fi, ?e1, ?e2, ⟨rfl, rfl, w, w1, w2⟩, hK, rfl, hS0⟩
    case e1 => subst c0; rfl
    case e2 => subst c0; exact (show some (now 0, fi) = _ by rw [n0])
  by_cases c1 : z0 = 1
  · refine ⟨nI nl, fi, fi, ?e1, ?e2, ⟨rfl, rfl, w, w1, w2⟩, hK, rfl, hS0⟩
    case e1 => subst c1; rfl
    case e2 => subst c1; exact (show some (now 1, fi) = _ by rw [n1])
  by_cases c2 : z0 = 2
  · refine ⟨nI nt, fi, fi, ?e1, ?e2, ⟨rfl, rfl, w, w1, w2⟩, hK, rfl, hS0⟩
    case e1 => subst c2; rfl
    case e2 => subst c2; exact (show some (now 2, fi) = _ by rw [n2])
  by_cases c3 : z0 = 3
  · refine ⟨nI nm, fi, fi, ?e1, ?e2, ⟨rfl, rfl, w, w1, w2⟩, hK, rfl, hS0⟩
    case e1 => subst c3; rfl
    case e2 => subst c3; exact (show some (now 3, fi) = _ by rw [n3])
  by_cases c4 : z0 = 4
  · refine ⟨nI r.length, fi, fi, ?e1, ?e2, ⟨rfl, rfl, w, w1, w2⟩, hK, rfl, hS0⟩
    case e1 => subst c4; exact (show bn1_ (F_X9_size wd) (fun y => some (y, fi)) = _ by rw [hsz]; rfl)
    case e2 => subst c4; exact (show some (now 4, fi) = _ by rw [r4])
  by_cases c5 : z0 = 5
  · refine ⟨nI k, fi, fi, ?e1, ?e2, ⟨rfl, rfl, w, w1, w2⟩, hK, rfl, hS0⟩
    case e1 => subst c5; exact (show some (lc, fi) = _ by rw [k2])
    case e2 => subst c5; exact (show some (now 5, fi) = _ by rw [k3])
  by_cases c6 : z0 = 6
  · refine ⟨wc, fi, fi, ?e1, ?e2, ⟨rfl, rfl, w, w1, w2⟩, hK, rfl, hS0⟩
    case e1 => subst c6; rfl
    case e2 => subst c6; rfl
  by_cases c7 : z0 = 7
  · refine ⟨fi, fi, fi, ?e1, ?e2, ⟨rfl, rfl, w, w1, w2⟩, hK, rfl, hS0⟩
    case e1 => subst c7; rfl
    case e2 => subst c7; rfl
  · refine ⟨-1, fi + 1, fi + 1, ?e1, ?e2, ⟨rfl, rfl, w, w1, w2⟩, hK, rfl, hS0⟩
    case e1 => unfold F_X10_told F_X10_told_0; rw [if_neg c0, if_neg c1, if_neg c2, if_neg c3, if_neg c4, if_neg c5, if_neg c6, if_neg c7]; rfl
    case e2 => unfold F_X11_told F_X11_told_0; rw [if_neg c0, if_neg c1, if_neg c2, if_neg c3, if_neg c4, if_neg c5, if_neg c6, if_neg c7]; rfl
