/-! roots, some -/
theorem b9_s {A1 A2 A3 A4 A5 A6 A7 A8 A9 α : Type} (a1 : A1) (a2 : A2) (a3 : A3) (a4 : A4) (a5 : A5) (a6 : A6) (a7 : A7) (a8 : A8) (a9 : A9) (f : A1 → A2 → A3 → A4 → A5 → A6 → A7 → A8 → A9 → Option α) : bn9_ (some (a1, a2, a3, a4, a5, a6, a7, a8, a9)) f = f a1 a2 a3 a4 a5 a6 a7 a8 a9 := rfl
section RS
variable {now : Nat → Int32} {ns nl nt nm most m : Nat} {Lf Lh Li Lk Tp TO : Nat → Int32} {To : Nat → Nat → Int32} {Mf : Nat → Nat → Int64}
theorem rsl_MN {now1 : Nat → Int32} (h : rsl now now1) (h8 : nm ≤ 8) (hM : MN now ns nt nm Mf) : MN now1 ns nt nm Mf := MN_c h8 (fun i h1 h2 => h i (by omega) (by omega)) hM
theorem roots_loop (hI : LI now ns nl) (hC : LC now ns nl Lf Lh Li Lk) (hT : TT now nl nt To TO Tp) (hM : MN now ns nt nm Mf) (h8 : nm ≤ 8) (n0 : now 0 = nI ns) (n2 : now 2 = nI nt) (h4 : most ≤ 4) (hm1 : m < nm) (fi : Int32) (fuel : Nat) :
    ∀ (j n : Nat) (ou1 : Int64) (t1 mn sz mk ch : Int32) (goals led : Nat → Int64) (line made now1 row some1 word : Nat → Int32), j < hm ns most → n ≤ j → hm ns most - j + 1 < fuel → rsl now now1 → OC now1 ou1 → arr some1 (Wd ns j).reverse →
    ∃ v ou2 t2 goals2 mn2 sz2 mk2 ch2 ss2 led2 line2 made2 now2 row2 some2 word2, F_X0_countRoots_28L (nI m) (nI ns) (nI (hm ns most)) Lf Lh Li Lk Mf (nI nt) To TO Tp fuel (nI n) (wl (Wd ns j)) (nI j) goals ou1 t1 = some (v, goals2, ou2, t2) ∧ F_X11_roots_32L (nI m) (nI most) fi fuel (nI n) 1 mn sz mk ch (nI (Wd ns j).length) led line made now1 row some1 word = some (v, fi, mn2, sz2, mk2, ch2, ss2, led2, line2, made2, now2, row2, some2, word2) ∧ rsl now now2 ∧ OC now2 ou2 := by
  have hK := hm_b (n := ns) (m := most) hI.2.1 h4
  induction fuel with
  | zero => intro j n ou1 t1 mn sz mk ch goals led line made now1 row some1 word _ _ h; exact absurd h (Nat.not_lt_zero _)
  | succ fuel ih =>
    intro j n ou1 t1 mn sz mk ch goals led line made now1 row some1 word hj hn hf hs hO ha
    have e0 : F_X0_countRoots_28L (nI m) (nI ns) (nI (hm ns most)) Lf Lh Li Lk Mf (nI nt) To TO Tp (fuel + 1) (nI n) (wl (Wd ns j)) (nI j) goals ou1 t1 = F_X0_countRoots_28 (F_X0_countRoots_28L (nI m) (nI ns) (nI (hm ns most)) Lf Lh Li Lk Mf (nI nt) To TO Tp fuel) (nI m) (nI n) (nI ns) (nI (hm ns most)) (wl (Wd ns j)) (nI j) goals ou1 t1 Lf Lh Li Lk Mf (nI nt) To TO Tp := rfl
    have e1 : F_X11_roots_32L (nI m) (nI most) fi (fuel + 1) (nI n) 1 mn sz mk ch (nI (Wd ns j).length) led line made now1 row some1 word = F_X11_roots_32 (F_X11_roots_32L (nI m) (nI most) fi fuel) (nI m) (nI most) (nI n) 1 fi mn sz mk ch (nI (Wd ns j).length) led line made now1 row some1 word := rfl
    rw [e0, e1]
    obtain ⟨hd, hl4⟩ := Wd_ok hj
    have hl16 := Wd_16 h4 hj
    have hdg := dn_dg hd hI.2.1
    have hI1 := rsl_LI hs hI
    have hT1 := rsl_TI hs hT.1
    have hM1 := rsl_MN hs h8 hM
    obtain ⟨goals2, t2, c1, c2⟩ := c_leadByAll hI hC hT hd hl16 goals t1
    obtain ⟨mn2, sz2, mk2, ch2, led2, line2, made2, row2, word2, m1, m2⟩ := m_leadAll hI1 hT1 ((hs 2 (by omega) (by omega)).trans n2) hd (show (Wd ns j).length ≤ 4 by omega) ha mn sz mk ch led line made row word
    have hcr := c_rooted h8 hM hm1 c2
    have hmr := m_root h8 hT.1.1 hI.2.1 ((hs 2 (by omega) (by omega)).trans n2) hM1 hm1 m2 (fun s hs' => ldA_ok hI1 (rows_dn hT1 s hs') hd hl16)
    rw [rt_c hI hT.1 hs hM hm1] at hmr
    have tail : ∀ (n' : Nat) (ou' : Int64) (now' : Nat → Int32), n' ≤ j + 1 → rsl now now' → OC now' ou' → ∃ v ou2 t2' goals2' mn2' sz2' mk2' ch2' ss2 led2' line2' made2' now2 row2' some2 word2', F_X0_countRoots_69 (F_X0_countRoots_28L (nI m) (nI ns) (nI (hm ns most)) Lf Lh Li Lk Mf (nI nt) To TO Tp fuel) (nI m) (nI n') (nI ns) (nI (hm ns most)) (wl (Wd ns j)) (nI j) goals2 ou' t2 Lf Lh Li Lk Mf (nI nt) To TO Tp = some (v, goals2', ou2, t2') ∧ F_X11_roots_60 (F_X11_roots_32L (nI m) (nI most) fi fuel) (nI m) (nI most) (nI n') fi mn2 sz2 mk2 ch2 (nI (Wd ns j).length) led2 line2 made2 now' row2 some1 word2 = some (v, fi, mn2', sz2', mk2', ch2', ss2, led2', line2', made2', now2, row2', some2, word2') ∧ rsl now now2 ∧ OC now2 ou2 := by
      intro n' ou' now' hn' hs' hO'
      unfold F_X0_countRoots_69 F_X11_roots_60
      obtain ⟨y, ssz, f', x1, x2⟩ := m_next (now := now') hI.2.1 h4 ((hs' 0 (by omega) (by omega)).trans n0) hj ha
      rw [w_next hI.2.1 hdg (by omega), b1_s, lt_e, nI_1, x1, b3_s]
      rcases x2 with ⟨rfl, hlast⟩ | ⟨rfl, hlt, rfl, ha'⟩
      · obtain ⟨fuel, rfl⟩ : ∃ g, fuel = g + 1 := ⟨fuel - 1, by omega⟩
        refine ⟨nI n', ou', t2, goals2, mn2, sz2, mk2, ch2, ssz, led2, line2, made2, now', row2, f', word2, ?_, ?_, hs', hO'⟩
        · show F_X0_countRoots_28 (F_X0_countRoots_28L (nI m) (nI ns) (nI (hm ns most)) Lf Lh Li Lk Mf (nI nt) To TO Tp fuel) (nI m) (nI n') (nI ns) (nI (hm ns most)) (wl (nr ns (Wd ns j))) (nI (j + 1)) goals2 ou' t2 Lf Lh Li Lk Mf (nI nt) To TO Tp = _
          unfold F_X0_countRoots_28
          rw [if_pos (nI_le (by omega) (by omega))]
        · show F_X11_roots_32 (F_X11_roots_32L (nI m) (nI most) fi fuel) (nI m) (nI most) (nI n') 0 fi mn2 sz2 mk2 ch2 ssz led2 line2 made2 now' row2 f' word2 = _
          unfold F_X11_roots_32
          rw [if_pos rfl]
      · exact ih (j + 1) n' ou' t2 mn2 sz2 mk2 ch2 goals2 led2 line2 made2 now' row2 f' word2 hlt hn' (by omega) hs' hO' ha'
    unfold F_X0_countRoots_28 F_X11_roots_32
    rw [if_neg (nI_ge hj (by omega)), c1, b2_s, hcr, b1_s, if_neg ne10, m1, b9_s, hmr, b1_s]
    cases hP : rtB Mf now m (Wd ns j) with
    | false =>
      rw [if_pos (show b2 false = 0 from rfl), if_pos (show b2 false = 0 from rfl)]
      exact tail n ou1 now1 (by omega) hs hO
    | true =>
      rw [if_neg (show ¬ b2 true = 0 by decide), if_neg (show ¬ b2 true = 0 by decide)]
      unfold F_X0_showFirst F_X0_showFirst_0 F_X11_roots_57
      by_cases cn : n = 0
      · obtain ⟨now', y1, y2, y3⟩ := m_tellSome (now := now1) (show (Wd ns j).length ≤ 4 by omega) ha
        rw [if_pos ((e0_ (by omega)).mpr cn), lt_e, b1_s, lt_e, if_pos ((e0_ (by omega)).mpr cn), y1, b1_s, lt_e, nI_1]
        exact tail (n + 1) (wl (Wd ns j)) now' (by omega) (rsl_tr hs y2) ⟨Wd ns j, hdg, hl16, rfl, y3⟩
      · have cn' : ¬ nI n = 0 := fun q => cn ((e0_ (by omega)).mp q)
        rw [if_neg cn', b1_s, lt_e, if_neg cn', lt_e, nI_1]
        exact tail (n + 1) ou1 now1 (by omega) hs hO
theorem le_xj {a b : Nat} (ha : a < 2 ^ 31) (hb : b < 2 ^ 31) : nI a ≤ xj b ↔ a + 1 ≤ b := by
  cases b with
  | zero =>
    refine ⟨fun h => ?_, fun h => absurd h (Nat.not_succ_le_zero _)⟩
    rw [fa_le, nI_toInt ha] at h
    have e : (xj 0).toInt = -1 := by decide
    omega
  | succ b => rw [xj_s, nI_leI ha (by omega)]; omega
theorem some_loop (hI : LI now ns nl) (hC : LC now ns nl Lf Lh Li Lk) (hT : TT now nl nt To TO Tp) (hM : MN now ns nt nm Mf) (h8 : nm ≤ 8) (n0 : now 0 = nI ns) (n2 : now 2 = nI nt) (h4 : most ≤ 4) (hm1 : m < nm) (fi : Int32) (fuel : Nat) :
    ∀ (j n : Nat) (ou1 : Int64) (t1 mn sz mk ch : Int32) (goals led : Nat → Int64) (line made now1 row some1 word : Nat → Int32), j < hm ns most → n ≤ 7 → hm ns most - j + 1 < fuel → rsl now now1 → OC now1 ou1 → arr some1 (Wd ns j).reverse →
    ∃ v ou2 t2 goals2 mn2 sz2 mk2 ch2 ss2 led2 line2 made2 now2 row2 some2 word2, F_X0_mostAgreeing_28L (nI m) (nI ns) (nI (hm ns most)) Lf Lh Li Lk Mf (nI nt) To TO Tp fuel (xj n) (wl (Wd ns j)) (nI j) goals ou1 t1 = some (v, goals2, ou2, t2) ∧ F_X11_some_47L (nI m) (nI most) fi fuel (xj n) 1 mn sz mk ch (nI (Wd ns j).length) led line made now1 row some1 word = some (v, fi, mn2, sz2, mk2, ch2, ss2, led2, line2, made2, now2, row2, some2, word2) ∧ rsl now now2 ∧ OC now2 ou2 := by
  have hK := hm_b (n := ns) (m := most) hI.2.1 h4
  induction fuel with
  | zero => intro j n ou1 t1 mn sz mk ch goals led line made now1 row some1 word _ _ h; exact absurd h (Nat.not_lt_zero _)
  | succ fuel ih =>
    intro j n ou1 t1 mn sz mk ch goals led line made now1 row some1 word hj hn hf hs hO ha
    have e0 : F_X0_mostAgreeing_28L (nI m) (nI ns) (nI (hm ns most)) Lf Lh Li Lk Mf (nI nt) To TO Tp (fuel + 1) (xj n) (wl (Wd ns j)) (nI j) goals ou1 t1 = F_X0_mostAgreeing_28 (F_X0_mostAgreeing_28L (nI m) (nI ns) (nI (hm ns most)) Lf Lh Li Lk Mf (nI nt) To TO Tp fuel) (nI m) (xj n) (nI ns) (nI (hm ns most)) (wl (Wd ns j)) (nI j) goals ou1 t1 Lf Lh Li Lk Mf (nI nt) To TO Tp := rfl
    have e1 : F_X11_some_47L (nI m) (nI most) fi (fuel + 1) (xj n) 1 mn sz mk ch (nI (Wd ns j).length) led line made now1 row some1 word = F_X11_some_47 (F_X11_some_47L (nI m) (nI most) fi fuel) (nI m) (nI most) (xj n) 1 fi mn sz mk ch (nI (Wd ns j).length) led line made now1 row some1 word := rfl
    rw [e0, e1]
    obtain ⟨hd, hl4⟩ := Wd_ok hj
    have hl16 := Wd_16 h4 hj
    have hdg := dn_dg hd hI.2.1
    have hI1 := rsl_LI hs hI
    have hT1 := rsl_TI hs hT.1
    have hM1 := rsl_MN hs h8 hM
    obtain ⟨goals2, t2, c1, c2⟩ := c_leadByAll hI hC hT hd hl16 goals t1
    obtain ⟨mn2, sz2, mk2, ch2, led2, line2, made2, row2, word2, m1, m2⟩ := m_leadAll hI1 hT1 ((hs 2 (by omega) (by omega)).trans n2) hd (show (Wd ns j).length ≤ 4 by omega) ha mn sz mk ch led line made row word
    have hcr := c_agree h8 hM hm1 c2
    have hmr := m_hits h8 hT.1.1 hI.2.1 ((hs 2 (by omega) (by omega)).trans n2) hM1 hm1 m2 (fun s hs' => ldA_ok hI1 (rows_dn hT1 s hs') hd hl16)
    rw [hc_c hI hT.1 hs hM hm1] at hmr
    have hb2 : hcB Mf now m (Wd ns j) ≤ 6 := fb_ct_le _ 6
    generalize hcB Mf now m (Wd ns j) = h at hcr hmr hb2
    have tail : ∀ (n' : Nat) (ou' : Int64) (now' : Nat → Int32), n' ≤ 7 → rsl now now' → OC now' ou' → ∃ v ou2 t2' goals2' mn2' sz2' mk2' ch2' ss2 led2' line2' made2' now2 row2' some2 word2', F_X0_mostAgreeing_76 (F_X0_mostAgreeing_28L (nI m) (nI ns) (nI (hm ns most)) Lf Lh Li Lk Mf (nI nt) To TO Tp fuel) (nI m) (xj n') (nI ns) (nI (hm ns most)) (wl (Wd ns j)) (nI j) goals2 ou' t2 Lf Lh Li Lk Mf (nI nt) To TO Tp = some (v, goals2', ou2, t2') ∧ F_X11_some_76 (F_X11_some_47L (nI m) (nI most) fi fuel) (nI m) (nI most) (xj n') fi mn2 sz2 mk2 ch2 (nI (Wd ns j).length) led2 line2 made2 now' row2 some1 word2 = some (v, fi, mn2', sz2', mk2', ch2', ss2, led2', line2', made2', now2, row2', some2, word2') ∧ rsl now now2 ∧ OC now2 ou2 := by
      intro n' ou' now' hn' hs' hO'
      unfold F_X0_mostAgreeing_76 F_X11_some_76
      obtain ⟨y, ssz, f', x1, x2⟩ := m_next (now := now') hI.2.1 h4 ((hs' 0 (by omega) (by omega)).trans n0) hj ha
      rw [w_next hI.2.1 hdg (by omega), b1_s, lt_e, nI_1, x1, b3_s]
      rcases x2 with ⟨rfl, hlast⟩ | ⟨rfl, hlt, rfl, ha'⟩
      · obtain ⟨fuel, rfl⟩ : ∃ g, fuel = g + 1 := ⟨fuel - 1, by omega⟩
        refine ⟨xj n', ou', t2, goals2, mn2, sz2, mk2, ch2, ssz, led2, line2, made2, now', row2, f', word2, ?_, ?_, hs', hO'⟩
        · show F_X0_mostAgreeing_28 (F_X0_mostAgreeing_28L (nI m) (nI ns) (nI (hm ns most)) Lf Lh Li Lk Mf (nI nt) To TO Tp fuel) (nI m) (xj n') (nI ns) (nI (hm ns most)) (wl (nr ns (Wd ns j))) (nI (j + 1)) goals2 ou' t2 Lf Lh Li Lk Mf (nI nt) To TO Tp = _
          unfold F_X0_mostAgreeing_28
          rw [if_pos (nI_le (by omega) (by omega))]
        · show F_X11_some_47 (F_X11_some_47L (nI m) (nI most) fi fuel) (nI m) (nI most) (xj n') 0 fi mn2 sz2 mk2 ch2 ssz led2 line2 made2 now' row2 f' word2 = _
          unfold F_X11_some_47
          rw [if_pos rfl]
      · exact ih (j + 1) n' ou' t2 mn2 sz2 mk2 ch2 goals2 led2 line2 made2 now' row2 f' word2 hlt hn' (by omega) hs' hO' ha'
    unfold F_X0_mostAgreeing_28 F_X11_some_47
    rw [if_neg (nI_ge hj (by omega)), c1, b2_s, hcr, b1_s, if_neg ne10, m1, b9_s, hmr, b1_s]
    by_cases c : h + 1 ≤ n
    · have c' : nI h ≤ xj n := (le_xj (by omega) (by omega)).mpr c
      rw [if_pos c', if_pos c']
      exact tail n ou1 now1 hn hs hO
    · have c' : ¬ nI h ≤ xj n := fun q => c ((le_xj (by omega) (by omega)).mp q)
      obtain ⟨now', y1, y2, y3⟩ := m_tellSome (now := now1) (show (Wd ns j).length ≤ 4 by omega) ha
      rw [if_neg c', if_neg c', lt_e, y1, b1_s]
      exact tail (h + 1) (wl (Wd ns j)) now' (by omega) (rsl_tr hs y2) ⟨Wd ns j, hdg, hl16, rfl, y3⟩
end RS
set_option maxHeartbeats 1000000 in
theorem sim_roots : Sim_roots Rel := by
  intro wc ak fi kwd kou kga klc klt klw kLc kLf kLh kLi kLk kLK kLN kLY kMc kMf kSc kSr kSk kSn kSy kTc kTo kTO kTp wd ou ga lc lt lw Lc Lf Lh Li Lk LK LN LY Mc Mf Sc Sr Sk Sn Sy Tc To TO Tp wt f_goals tch isK wts mfi now mkept mwt m_many m_size m_makes m_changes m_someSize m_ledTo m_line m_made m_row m_some m_word z0 z1 hR
  obtain ⟨hW, hK, hF, hS⟩ := hR
  subst hF
  have hS0 := hS
  obtain ⟨ns, nl, nt, nm, hC, hSn, hL, hT, hM, ⟨r, hw⟩, hO, hLt, hG⟩ := hS
  obtain ⟨n0, n1, n2, n3, rfl, rfl, rfl, rfl, bb0, bb1, bb2, bb3⟩ := hC
  rcases ix_c z0 (n := nm) (by omega) with h | ⟨m, hm1, rfl⟩
  · iterate 18 apply Exists.intro
    refine ⟨?e1, ?e2, hW, hK, ?e5, ?e3⟩
    case e1 => unfold F_X10_roots F_X10_roots_0 F_X10_roots_21; rw [has2, has_no h]; rfl
    case e2 => unfold F_X11_roots F_X11_roots_0 F_X11_roots_17; rw [is3_no n3 (by omega) h]; rfl
    case e5 => rfl
    case e3 => exact hS0
  · rcases in_c z1 0 4 with ⟨h1, h2⟩ | ⟨h1, h2, h3⟩
    · iterate 18 apply Exists.intro
      refine ⟨?e1, ?e2, hW, hK, ?e5, ?e3⟩
      case e1 => unfold F_X10_roots F_X10_roots_0 F_X10_roots_21; rw [has2, has_yes (by omega) hm1, b1_s, if_neg (by decide), tried, h1]; rfl
      case e2 => unfold F_X11_roots F_X11_roots_0 F_X11_roots_17; rw [is3_yes n3 (by omega) hm1, b1_s, if_neg (by decide), h1]; rfl
      case e5 => rfl
      case e3 => exact hS0
    · obtain ⟨most, hmost, rfl⟩ := in_n (b := 4) (m := 4) rfl (by decide) h2 h3
      have hKb := hm_b (n := ns) (m := most) bb0 hmost
      obtain ⟨v, ou2, t2, goals2, mn2, sz2, mk2, ch2, ss2, led2, line2, made2, now2, row2, some2, word2, l1, l2, l3, l4⟩ := roots_loop hL.1 hL.2.1 hT hM bb3 n0 n2 hmost hm1 fi fu_ 0 0 ou tch m_many m_size m_makes m_changes f_goals m_ledTo m_line m_made now m_row m_some m_word (hm_pos ns most) (Nat.zero_le _) (by unfold fu_; omega) (rsl_rf now) hO (fun i hi => absurd hi (Nat.not_lt_zero i))
      have hn : ∀ i, i ≠ 7 ∧ (i < 816 ∨ 848 ≤ i) → now2 i = now i := fun i hi => l3 i hi.1 hi.2
      iterate 18 apply Exists.intro
      refine ⟨?e1, ?e2, hW, hK, ?e5, ns, nl, nt, nm, ⟨(hn 0 (by omega)).trans n0, (hn 1 (by omega)).trans n1, (hn 2 (by omega)).trans n2, (hn 3 (by omega)).trans n3, rfl, rfl, rfl, rfl, bb0, bb1, bb2, bb3⟩, SN_c bb0 (fun i h4 h5 => hn i (by omega)) hSn, LL_c (fun i h4 h5 => hn i (by omega)) hL, TT_c (fun i h4 h5 => hn i (by omega)) hT, MN_c bb3 (fun i h4 h5 => hn i (by omega)) hM, ⟨r, WDr_c (hn 4 (by omega)) (fun i h4 h5 => hn i (by omega)) hw⟩, l4, LT_c (hn 5 (by omega)) (fun i h4 h5 => hn i (by omega)) hLt, GP_c (hn 6 (by omega)) hG⟩
      case e1 =>
        unfold F_X10_roots F_X10_roots_0 F_X0_countRoots F_X0_countRoots_0
        rw [has2, has_yes (by omega) hm1, b1_s, if_neg (by decide), tried, h1, b1_s, if_neg (by decide), w_how bb0 hmost, b1_s]
        exact (show bn4_ (F_X0_countRoots_28L (nI m) (nI ns) (nI (hm ns most)) Lf Lh Li Lk Mf (nI nt) To TO Tp fu_ (nI 0) (wl (Wd ns 0)) (nI 0) f_goals ou tch) _ = _ by rw [l1]; rfl)
      case e2 =>
        unfold F_X11_roots F_X11_roots_0 F_X11_beginSome F_X11_beginSome_0
        rw [is3_yes n3 (by omega) hm1, b1_s, if_neg (by decide), h1, b1_s, if_neg (by decide), lt_e, b1_s]
        exact l2
      case e5 => rfl
set_option maxHeartbeats 1000000 in
theorem sim_some : Sim_some Rel := by
  intro wc ak fi kwd kou kga klc klt klw kLc kLf kLh kLi kLk kLK kLN kLY kMc kMf kSc kSr kSk kSn kSy kTc kTo kTO kTp wd ou ga lc lt lw Lc Lf Lh Li Lk LK LN LY Mc Mf Sc Sr Sk Sn Sy Tc To TO Tp wt f_goals tch isK wts mfi now mkept mwt m_many m_size m_makes m_changes m_someSize m_ledTo m_line m_made m_row m_some m_word z0 z1 hR
  obtain ⟨hW, hK, hF, hS⟩ := hR
  subst hF
  have hS0 := hS
  obtain ⟨ns, nl, nt, nm, hC, hSn, hL, hT, hM, ⟨r, hw⟩, hO, hLt, hG⟩ := hS
  obtain ⟨n0, n1, n2, n3, rfl, rfl, rfl, rfl, bb0, bb1, bb2, bb3⟩ := hC
  rcases ix_c z0 (n := nm) (by omega) with h | ⟨m, hm1, rfl⟩
  · iterate 18 apply Exists.intro
    refine ⟨?e1, ?e2, hW, hK, ?e5, ?e3⟩
    case e1 => unfold F_X10_some F_X10_some_0 F_X10_some_21; rw [has2, has_no h]; rfl
    case e2 => unfold F_X11_some F_X11_some_0 F_X11_some_17; rw [is3_no n3 (by omega) h]; rfl
    case e5 => rfl
    case e3 => exact hS0
  · rcases in_c z1 0 4 with ⟨h1, h2⟩ | ⟨h1, h2, h3⟩
    · iterate 18 apply Exists.intro
      refine ⟨?e1, ?e2, hW, hK, ?e5, ?e3⟩
      case e1 => unfold F_X10_some F_X10_some_0 F_X10_some_21; rw [has2, has_yes (by omega) hm1, b1_s, if_neg (by decide), tried, h1]; rfl
      case e2 => unfold F_X11_some F_X11_some_0 F_X11_some_17; rw [is3_yes n3 (by omega) hm1, b1_s, if_neg (by decide), h1]; rfl
      case e5 => rfl
      case e3 => exact hS0
    · obtain ⟨most, hmost, rfl⟩ := in_n (b := 4) (m := 4) rfl (by decide) h2 h3
      have hKb := hm_b (n := ns) (m := most) bb0 hmost
      have hcf := c_countForms (m := m) (by omega) Mf
      have hmf := m_formsOf bb3 bb2 bb0 n2 hM hm1
      have hf6 := fb_ct_le (hasF Mf m) 6
      by_cases c0 : fb_ct (hasF Mf m) 6 = 0
      · rw [c0] at hcf hmf
        iterate 18 apply Exists.intro
        refine ⟨?e1, ?e2, hW, hK, ?e5, ?e3⟩
        case e1 => unfold F_X10_some F_X10_some_0; rw [has2, has_yes (by omega) hm1, b1_s, if_neg (by decide), tried, h1, b1_s, if_neg (by decide), hcf]; rfl
        case e2 => unfold F_X11_some F_X11_some_0; rw [is3_yes n3 (by omega) hm1, b1_s, if_neg (by decide), h1, b1_s, if_neg (by decide), hmf]; rfl
        case e5 => rfl
        case e3 => exact hS0
      · have c0' : ¬ nI (fb_ct (hasF Mf m) 6) = 0 := fun q => c0 ((e0_ (by omega)).mp q)
        obtain ⟨v, ou2, t2, goals2, mn2, sz2, mk2, ch2, ss2, led2, line2, made2, now2, row2, some2, word2, l1, l2, l3, l4⟩ := some_loop hL.1 hL.2.1 hT hM bb3 n0 n2 hmost hm1 fi fu_ 0 0 ou tch m_many m_size m_makes m_changes f_goals m_ledTo m_line m_made now m_row m_some m_word (hm_pos ns most) (Nat.zero_le _) (by unfold fu_; omega) (rsl_rf now) hO (fun i hi => absurd hi (Nat.not_lt_zero i))
        have hn : ∀ i, i ≠ 7 ∧ (i < 816 ∨ 848 ≤ i) → now2 i = now i := fun i hi => l3 i hi.1 hi.2
        iterate 18 apply Exists.intro
        refine ⟨?e1, ?e2, hW, hK, ?e5, ns, nl, nt, nm, ⟨(hn 0 (by omega)).trans n0, (hn 1 (by omega)).trans n1, (hn 2 (by omega)).trans n2, (hn 3 (by omega)).trans n3, rfl, rfl, rfl, rfl, bb0, bb1, bb2, bb3⟩, SN_c bb0 (fun i h4 h5 => hn i (by omega)) hSn, LL_c (fun i h4 h5 => hn i (by omega)) hL, TT_c (fun i h4 h5 => hn i (by omega)) hT, MN_c bb3 (fun i h4 h5 => hn i (by omega)) hM, ⟨r, WDr_c (hn 4 (by omega)) (fun i h4 h5 => hn i (by omega)) hw⟩, l4, LT_c (hn 5 (by omega)) (fun i h4 h5 => hn i (by omega)) hLt, GP_c (hn 6 (by omega)) hG⟩
        case e1 =>
          unfold F_X10_some F_X10_some_0 F_X0_mostAgreeing F_X0_mostAgreeing_0
          rw [has2, has_yes (by omega) hm1, b1_s, if_neg (by decide), tried, h1, b1_s, if_neg (by decide), hcf, b1_s, if_neg c0', w_how bb0 hmost, b1_s]
          exact (show bn4_ (F_X0_mostAgreeing_28L (nI m) (nI ns) (nI (hm ns most)) Lf Lh Li Lk Mf (nI nt) To TO Tp fu_ (xj 0) (wl (Wd ns 0)) (nI 0) f_goals ou tch) _ = _ by rw [l1]; rfl)
        case e2 =>
          unfold F_X11_some F_X11_some_0 F_X11_beginSome F_X11_beginSome_0
          rw [is3_yes n3 (by omega) hm1, b1_s, if_neg (by decide), h1, b1_s, if_neg (by decide), hmf, b1_s, if_neg c0', lt_e, b1_s]
          exact l2
        case e5 => rfl
