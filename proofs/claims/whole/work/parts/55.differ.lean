/-! differ -/
section DF
variable {now : Nat → Int32} {ns nl nt most t u : Nat} {Lf Lh Li Lk crow orow : Nat → Int32}
theorem diff_loop (hI : LI now ns nl) (hC : LC now ns nl Lf Lh Li Lk) (hT : TI now nt nl) (n0 : now 0 = nI ns) (h4 : most ≤ 4) (ht : t < nt) (hu : u < nt) (hcr : arr crow (rows now t)) (hor : arr orow (rows now u)) (fi : Int32) (fuel : Nat) :
    ∀ (j : Nat) (t1 mn sz mk ch : Int32) (line made row some1 word : Nat → Int32), j < hm ns most → hm ns most - j + 1 < fuel → arr some1 (Wd ns j).reverse →
    ∃ y v f2 t2 mn2 sz2 mk2 ch2 ss2 line2 made2 now2 row2 some2 word2, F_X0_firstLedApart_56L (nI ns) (nI (hm ns most)) (nI (rows now u).length) orow (nI (rows now t).length) crow Lf Lh Li Lk fuel (wl (Wd ns j)) (nI j) t1 = some (y, nI (rows now u).length, orow, nI (rows now t).length, crow, t2) ∧ F_X11_differ_38L (nI t) (nI u) (nI most) fuel 1 fi mn sz mk ch (nI (Wd ns j).length) line made now row some1 word = some (v, f2, mn2, sz2, mk2, ch2, ss2, line2, made2, now2, row2, some2, word2) ∧
      ((y = 0 ∧ v = -5 ∧ f2 = fi + 1 ∧ now2 = now) ∨ ∃ x : List Nat, dg x ∧ x.length ≤ 16 ∧ y = wl x ∧ v = nI x.length ∧ f2 = fi ∧ rsl now now2 ∧ OCr now2 x) := by
  have hK := hm_b (n := ns) (m := most) hI.2.1 h4
  have hlt := rows_len hT t ht
  have hlu := rows_len hT u hu
  have hnt := hT.1
  have hvt := rows_dn hT t ht
  have hvu := rows_dn hT u hu
  induction fuel with
  | zero => intro j t1 mn sz mk ch line made row some1 word _ h; exact absurd h (Nat.not_lt_zero _)
  | succ fuel ih =>
    intro j t1 mn sz mk ch line made row some1 word hj hf ha
    have e0 : F_X0_firstLedApart_56L (nI ns) (nI (hm ns most)) (nI (rows now u).length) orow (nI (rows now t).length) crow Lf Lh Li Lk (fuel + 1) (wl (Wd ns j)) (nI j) t1 = F_X0_firstLedApart_56 (F_X0_firstLedApart_56L (nI ns) (nI (hm ns most)) (nI (rows now u).length) orow (nI (rows now t).length) crow Lf Lh Li Lk fuel) (nI ns) (nI (hm ns most)) (wl (Wd ns j)) (nI j) (nI (rows now u).length) orow (nI (rows now t).length) crow t1 Lf Lh Li Lk := rfl
    have e1 : F_X11_differ_38L (nI t) (nI u) (nI most) (fuel + 1) 1 fi mn sz mk ch (nI (Wd ns j).length) line made now row some1 word = F_X11_differ_38 (F_X11_differ_38L (nI t) (nI u) (nI most) fuel) (nI t) (nI u) (nI most) 1 fi mn sz mk ch (nI (Wd ns j).length) line made now row some1 word := rfl
    rw [e0, e1]
    obtain ⟨hd, hl4⟩ := Wd_ok hj
    have hl16 := Wd_16 h4 hj
    have hdg := dn_dg hd hI.2.1
    obtain ⟨t2, c1⟩ := c_leadAlong hI hC hcr (by omega) hvt t1 hd hl16
    obtain ⟨t3, c2⟩ := c_leadAlong hI hC hor (by omega) hvu t2 hd hl16
    obtain ⟨line', row', f1, f2⟩ := m_findLaws hT ht mn line row
    obtain ⟨w', s1, s2⟩ := m_takeSome (by omega) ha sz word
    have hokt := ldA_ok hI hvt hd hl16
    have hoku := ldA_ok hI hvu hd hl16
    obtain ⟨sz2, mk2, ch2, made2, word2, m1⟩ := m_code hI f2 (by omega) hvt mk ch made w' hd hl16 s2 hokt
    obtain ⟨line3, row3, f3, f4⟩ := m_findLaws hT hu (nI (rows now t).length) line' row'
    obtain ⟨w3, s3, s4⟩ := m_takeSome (by omega) ha sz2 word2
    obtain ⟨sz4, mk4, ch4, made4, word4, m2⟩ := m_code hI f4 (by omega) hvu mk2 ch2 made2 w3 hd hl16 s4 hoku
    have hw1 : wo (ldA now (rows now t) (Wd ns j)) = wo (ldA now (rows now u) (Wd ns j)) ↔ ldA now (rows now t) (Wd ns j) = ldA now (rows now u) (Wd ns j) := wo_inj hokt hoku
    have hw2 := co_inj hoku hokt
    unfold F_X0_firstLedApart_56 F_X11_differ_38
    rw [if_neg (nI_ge hj (by omega)), c1, b2_s, c2, b2_s, if_neg ne10, f1, b3_s, s1, b2_s, m1, b6_s, f3, b3_s, s3, b2_s, m2, b6_s]
    by_cases hP : ldA now (rows now t) (Wd ns j) = ldA now (rows now u) (Wd ns j)
    · rw [if_pos (hw1.mpr hP), if_pos (hw2.mpr hP.symm)]
      obtain ⟨y, ssz, f', x1, x2⟩ := m_next (now := now) hI.2.1 h4 n0 hj ha
      rw [w_next hI.2.1 hdg (by omega), b1_s, lt_e, nI_1, x1, b3_s]
      rcases x2 with ⟨rfl, hlast⟩ | ⟨rfl, hlt2, rfl, ha'⟩
      · obtain ⟨fuel, rfl⟩ : ∃ g, fuel = g + 1 := ⟨fuel - 1, by omega⟩
        refine ⟨0, -5, fi + 1, t3, nI (rows now u).length, sz4, mk4, ch4, ssz, line3, made4, now, row3, f', word4, ?_, ?_, Or.inl ⟨rfl, rfl, rfl, rfl⟩⟩
        · show F_X0_firstLedApart_56 (F_X0_firstLedApart_56L (nI ns) (nI (hm ns most)) (nI (rows now u).length) orow (nI (rows now t).length) crow Lf Lh Li Lk fuel) (nI ns) (nI (hm ns most)) (wl (nr ns (Wd ns j))) (nI (j + 1)) (nI (rows now u).length) orow (nI (rows now t).length) crow t3 Lf Lh Li Lk = _
          unfold F_X0_firstLedApart_56
          rw [if_pos (nI_le (by omega) (by omega))]
        · show F_X11_differ_38 (F_X11_differ_38L (nI t) (nI u) (nI most) fuel) (nI t) (nI u) (nI most) 0 fi (nI (rows now u).length) sz4 mk4 ch4 ssz line3 made4 now row3 f' word4 = _
          unfold F_X11_differ_38
          rw [if_pos rfl]
          rfl
      · exact ih (j + 1) t3 _ sz4 mk4 ch4 line3 made4 row3 f' word4 hlt2 (by omega) ha'
    · rw [if_neg (fun q => hP (hw1.mp q)), if_neg (fun q => hP (hw2.mp q).symm)]
      obtain ⟨now', y1, y2, y3⟩ := m_tellSome (now := now) (show (Wd ns j).length ≤ 4 by omega) ha
      rw [y1, b1_s]
      exact ⟨_, _, _, _, _, _, _, _, _, _, _, _, _, _, _, rfl, rfl, Or.inr ⟨Wd ns j, hdg, hl16, rfl, rfl, rfl, y2, y3⟩⟩
end DF
theorem hm_pos (n m : Nat) : 0 < hm n m := by
  rw [hm_sh]
  have h := sh_mono (n := n) (show 1 ≤ m + 1 by omega)
  have e : sh n 1 = 1 := by simp [sh]
  omega
set_option maxHeartbeats 1000000 in
theorem sim_differ : Sim_differ Rel := by
  intro wc ak fi kwd kou kga klc klt klw kLc kLf kLh kLi kLk kLK kLN kLY kMc kMf kSc kSr kSk kSn kSy kTc kTo kTO kTp wd ou ga lc lt lw Lc Lf Lh Li Lk LK LN LY Mc Mf Sc Sr Sk Sn Sy Tc To TO Tp wt f_otherRow_count f_otherRow_law f_row_count f_row_law tch isK wts mfi now mkept mwt m_many m_size m_makes m_changes m_someSize m_line m_made m_row m_some m_word z0 z1 z2 hR
  obtain ⟨hW, hK, hF, hS⟩ := hR
  subst hF
  have hS0 := hS
  obtain ⟨ns, nl, nt, nm, hC, hSn, hL, hT, hM, ⟨r, hw⟩, hO, hLt, hG⟩ := hS
  obtain ⟨n0, n1, n2, n3, rfl, rfl, rfl, rfl, bb0, bb1, bb2, bb3⟩ := hC
  rcases ix_c z0 (n := nt) (by omega) with h | ⟨t, ht, rfl⟩
  · iterate 20 apply Exists.intro
    refine ⟨?e1, ?e2, hW, hK, ?e5, ?e3⟩
    case e1 => unfold F_X10_differ F_X10_differ_0 F_X10_differ_35; rw [has7, has_no h]; rfl
    case e2 => unfold F_X11_differ F_X11_differ_0 F_X11_differ_25; rw [is2_no n2 (by omega) h]; rfl
    case e5 => rfl
    case e3 => exact hS0
  · rcases ix_c z1 (n := nt) (by omega) with h | ⟨u, hu, rfl⟩
    · iterate 20 apply Exists.intro
      refine ⟨?e1, ?e2, hW, hK, ?e5, ?e3⟩
      case e1 => unfold F_X10_differ F_X10_differ_0 F_X10_differ_35; rw [has7, has_yes (by omega) ht, b1_s, if_neg (by decide), has7, has_no h]; rfl
      case e2 => unfold F_X11_differ F_X11_differ_0 F_X11_differ_25; rw [is2_yes n2 (by omega) ht, b1_s, if_neg (by decide), is2_no n2 (by omega) h]; rfl
      case e5 => rfl
      case e3 => exact hS0
    · rcases in_c z2 0 4 with ⟨h1, h2⟩ | ⟨h1, h2, h3⟩
      · iterate 20 apply Exists.intro
        refine ⟨?e1, ?e2, hW, hK, ?e5, ?e3⟩
        case e1 => unfold F_X10_differ F_X10_differ_0 F_X10_differ_35; rw [has7, has_yes (by omega) ht, b1_s, if_neg (by decide), has7, has_yes (by omega) hu, b1_s, if_neg (by decide), tried, h1]; rfl
        case e2 => unfold F_X11_differ F_X11_differ_0 F_X11_differ_25; rw [is2_yes n2 (by omega) ht, b1_s, if_neg (by decide), is2_yes n2 (by omega) hu, b1_s, if_neg (by decide), h1]; rfl
        case e5 => rfl
        case e3 => exact hS0
      · obtain ⟨most, hmost, rfl⟩ := in_n (b := 4) (m := 4) rfl (by decide) h2 h3
        obtain ⟨law', c1, c2⟩ := c_fill hT.1 hT.2 ht f_row_count f_row_law
        obtain ⟨law2, c3, c4⟩ := c_fill hT.1 hT.2 hu f_otherRow_count f_otherRow_law
        have hKb := hm_b (n := ns) (m := most) bb0 hmost
        obtain ⟨y, v, f2, t2, mn2, sz2, mk2, ch2, ss2, line2, made2, now2, row2, some2, word2, l1, l2, l3⟩ := diff_loop hL.1 hL.2.1 hT.1 n0 hmost ht hu c2 c4 fi fu_ 0 tch m_many m_size m_makes m_changes m_line m_made m_row m_some m_word (hm_pos ns most) (by unfold fu_; omega) (fun i hi => absurd hi (Nat.not_lt_zero i))
        have k10 : F_X10_differ (nI t) (nI u) (nI most) fi f_otherRow_count f_otherRow_law f_row_count f_row_law ou tch Lf Lh Li Lk (nI ns) (nI nt) To TO Tp = (if y = 0 then (bn2_ (F_X10_found (-5) fi) (fun y25 o24 => some (y25, o24, nI (rows now u).length, law2, nI (rows now t).length, law', ou, t2))) else (bn2_ (F_X10_shown y ou) (fun y22 o21 => some (y22, fi, nI (rows now u).length, law2, nI (rows now t).length, law', o21, t2)))) := by
          unfold F_X10_differ F_X10_differ_0 F_X0_firstLedApart F_X0_firstLedApart_0
          rw [has7, has_yes (by omega) ht, b1_s, if_neg (by decide), has7, has_yes (by omega) hu, b1_s, if_neg (by decide), tried, h1, b1_s, if_neg (by decide), c1, b2_s, c3, b2_s, w_how bb0 hmost, b1_s]
          exact (show bn6_ (F_X0_firstLedApart_56L (nI ns) (nI (hm ns most)) (nI (rows now u).length) law2 (nI (rows now t).length) law' Lf Lh Li Lk fu_ (wl (Wd ns 0)) (nI 0) tch) _ = _ by rw [l1]; rfl)
        have k11 : F_X11_differ (nI t) (nI u) (nI most) fi m_many m_size m_makes m_changes m_someSize m_line m_made now m_row m_some m_word = some (v, f2, mn2, sz2, mk2, ch2, ss2, line2, made2, now2, row2, some2, word2) := by
          unfold F_X11_differ F_X11_differ_0 F_X11_beginSome F_X11_beginSome_0
          rw [is2_yes n2 (by omega) ht, b1_s, if_neg (by decide), is2_yes n2 (by omega) hu, b1_s, if_neg (by decide), h1, b1_s, if_neg (by decide), lt_e, b1_s]
          exact l2
        rcases l3 with ⟨rfl, rfl, rfl, rfl⟩ | ⟨x, x1, x2, rfl, rfl, rfl, x3, x4⟩
        · rw [if_pos rfl] at k10
          exact ⟨_, _, _, _, _, _, _, _, _, _, _, _, _, _, _, _, _, _, _, _, k10, k11, hW, hK, rfl, hS0⟩
        · have shf : F_X10_shown (wl x) ou = some (nI x.length, wl x) := by
            unfold F_X10_shown F_X10_shown_0
            rw [lt_e, w_size x1 x2]; rfl
          rw [if_neg (wl_ne0 x1 (by omega)), shf, b2_s] at k10
          have hn : ∀ i, i ≠ 7 ∧ (i < 816 ∨ 848 ≤ i) → now2 i = now i := fun i hi => x3 i hi.1 hi.2
          exact ⟨_, _, _, _, _, _, _, _, _, _, _, _, _, _, _, _, _, _, _, _, k10, k11, hW, hK, rfl, ns, nl, nt, nm, ⟨(hn 0 (by omega)).trans n0, (hn 1 (by omega)).trans n1, (hn 2 (by omega)).trans n2, (hn 3 (by omega)).trans n3, rfl, rfl, rfl, rfl, bb0, bb1, bb2, bb3⟩, SN_c bb0 (fun i h4 h5 => hn i (by omega)) hSn, LL_c (fun i h4 h5 => hn i (by omega)) hL, TT_c (fun i h4 h5 => hn i (by omega)) hT, MN_c bb3 (fun i h4 h5 => hn i (by omega)) hM, ⟨r, WDr_c (hn 4 (by omega)) (fun i h4 h5 => hn i (by omega)) hw⟩, ⟨x, x1, x2, rfl, x4⟩, LT_c (hn 5 (by omega)) (fun i h4 h5 => hn i (by omega)) hLt, GP_c (hn 6 (by omega)) hG⟩
