/-! back, differ: SOME WORDS one by one -/
theorem b3_s {α β γ δ : Type} (a : α) (b : β) (c : γ) (f : α → β → γ → Option δ) : bn3_ (some (a, b, c)) f = f a b c := rfl
theorem b4_s {α β γ δ ε : Type} (a : α) (b : β) (c : γ) (d : δ) (f : α → β → γ → δ → Option ε) : bn4_ (some (a, b, c, d)) f = f a b c d := rfl
theorem b5_s {α β γ δ ε ζ : Type} (a : α) (b : β) (c : γ) (d : δ) (e : ε) (f : α → β → γ → δ → ε → Option ζ) : bn5_ (some (a, b, c, d, e)) f = f a b c d e := rfl
theorem b6_s {α β γ δ ε ζ η : Type} (a : α) (b : β) (c : γ) (d : δ) (e : ε) (g : ζ) (f : α → β → γ → δ → ε → ζ → Option η) : bn6_ (some (a, b, c, d, e, g)) f = f a b c d e g := rfl
theorem b7_s {α β γ δ ε ζ η θ : Type} (a : α) (b : β) (c : γ) (d : δ) (e : ε) (g : ζ) (h : η) (f : α → β → γ → δ → ε → ζ → η → Option θ) : bn7_ (some (a, b, c, d, e, g, h)) f = f a b c d e g h := rfl
theorem ne10 : ¬ (1 : Int32) = 0 := by decide
theorem tried (x : Int32) : F_X10_isTried x = F_X11_in x 0 4 := rfl
theorem Wd_16 {n most j : Nat} (h4 : most ≤ 4) (hj : j < hm n most) : (Wd n j).length ≤ 16 := by have := (Wd_ok hj).2; omega
theorem rsl_ag {now now1 : Nat → Int32} (h : rsl now now1) : ∀ i, 16 ≤ i → i < 240 → now1 i = now i := fun i h1 h2 => h i (by omega) (by omega)
theorem rsl_LI {now now1 : Nat → Int32} {ns nl : Nat} (h : rsl now now1) (hI : LI now ns nl) : LI now1 ns nl := LI_c (fun i h1 h2 => h i (by omega) (by omega)) hI
theorem rsl_TI {now now1 : Nat → Int32} {nt nl : Nat} (h : rsl now now1) (hI : TI now nt nl) : TI now1 nt nl := by
  have hnt := hI.1
  refine ⟨hI.1, fun t ht => ?_⟩
  obtain ⟨a1, c, c1, c2, c3⟩ := hI.2 t ht
  rw [h (256 + t) (by omega) (by omega), h (264 + t) (by omega) (by omega)]
  exact ⟨a1, c, c1, c2, fun k hk => by rw [h (272 + 6 * t + k) (by omega) (by omega)]; exact c3 k hk⟩
theorem rows_c {now now' : Nat → Int32} {nt nl : Nat} (hI : TI now nt nl) (hI' : TI now' nt nl) (e : ∀ i, 256 ≤ i → i < 308 → now' i = now i) : ∀ t, t < nt → rows now' t = rows now t := by
  intro t
  induction t using Nat.strongRecOn with
  | ind t ih =>
    intro ht
    have hnt := hI.1
    rcases (hI.2 t ht).1 with h | ⟨p, hp, h⟩
    · rw [rows_top hI ht h, rows_top hI' ht ((e _ (by omega) (by omega)).trans h), ow_c hI e ht]
    · rw [rows_up hI ht hp h, rows_up hI' ht hp ((e _ (by omega) (by omega)).trans h), ow_c hI e ht, ih p hp (by omega)]
section BK
variable {now : Nat → Int32} {ns nl most : Nat} {ls r : List Nat} {Lf Lh Li Lk crow line mrow : Nat → Int32}
theorem back_loop (hI : LI now ns nl) (hC : LC now ns nl Lf Lh Li Lk) (n0 : now 0 = nI ns) (h4 : most ≤ 4) (hcr : arr crow ls) (hmr : arr mrow ls) (h36 : ls.length ≤ 36) (hv : dn nl ls) (hr : dn ns r) (hrl : r.length ≤ 8) (fi : Int32) (fuel : Nat) :
    ∀ (j n : Nat) (ou1 : Int64) (t1 sz mk ch : Int32) (made now1 some1 word : Nat → Int32), j < hm ns most → n ≤ j → hm ns most - j + 1 < fuel → rsl now now1 → OC now1 ou1 → arr some1 (Wd ns j).reverse →
    ∃ v ou2 t2 sz2 mk2 ch2 ss2 made2 now2 some2 word2, F_X0_countLeadingHere_43L (nI ns) (nI (hm ns most)) (nI ls.length) crow (wl r) Lf Lh Li Lk fuel (nI n) (wl (Wd ns j)) (nI j) ou1 t1 = some (v, nI ls.length, crow, ou2, t2) ∧ F_X11_back_52L (nI most) (co (some r)) fi (nI ls.length) line mrow fuel (nI n) 1 sz mk ch (nI (Wd ns j).length) made now1 some1 word = some (v, fi, nI ls.length, sz2, mk2, ch2, ss2, line, made2, now2, mrow, some2, word2) ∧ rsl now now2 ∧ OC now2 ou2 := by
  have hK := hm_b (n := ns) (m := most) hI.2.1 h4
  induction fuel with
  | zero => intro j n ou1 t1 sz mk ch made now1 some1 word _ _ h; exact absurd h (Nat.not_lt_zero _)
  | succ fuel ih =>
    intro j n ou1 t1 sz mk ch made now1 some1 word hj hn hf hs hO ha
    have e0 : F_X0_countLeadingHere_43L (nI ns) (nI (hm ns most)) (nI ls.length) crow (wl r) Lf Lh Li Lk (fuel + 1) (nI n) (wl (Wd ns j)) (nI j) ou1 t1 = F_X0_countLeadingHere_43 (F_X0_countLeadingHere_43L (nI ns) (nI (hm ns most)) (nI ls.length) crow (wl r) Lf Lh Li Lk fuel) (nI n) (nI ns) (nI (hm ns most)) (wl (Wd ns j)) (nI j) (nI ls.length) crow (wl r) ou1 t1 Lf Lh Li Lk := rfl
    have e1 : F_X11_back_52L (nI most) (co (some r)) fi (nI ls.length) line mrow (fuel + 1) (nI n) 1 sz mk ch (nI (Wd ns j).length) made now1 some1 word = F_X11_back_52 (F_X11_back_52L (nI most) (co (some r)) fi (nI ls.length) line mrow fuel) (nI most) (co (some r)) (nI n) 1 fi (nI ls.length) sz mk ch (nI (Wd ns j).length) line made now1 mrow some1 word := rfl
    rw [e0, e1]
    obtain ⟨hd, hl4⟩ := Wd_ok hj
    have hl16 := Wd_16 h4 hj
    have hdg := dn_dg hd hI.2.1
    obtain ⟨t2, c1⟩ := c_leadAlong hI hC hcr h36 hv t1 hd hl16
    obtain ⟨w', s1, s2⟩ := m_takeSome (by omega) ha sz word
    have hI1 := rsl_LI hs hI
    have hld := ldA_c (rsl_ag hs) hI.1 ls (Wd ns j) hv
    have hok := ldA_ok hI hv hd hl16
    obtain ⟨sz2, mk2, ch2, made2, word2, m1⟩ := m_code hI1 hmr h36 hv mk ch made w' hd hl16 s2 (by rw [hld]; exact hok)
    rw [hld] at m1
    have hrok : okW (some r) := okW_some (dn_dg hr hI.2.1) (by omega)
    have tail : ∀ (n' : Nat) (ou' : Int64) (now' : Nat → Int32), n' ≤ j + 1 → rsl now now' → OC now' ou' → ∃ v ou2 t2' sz2' mk2' ch2' ss2 made2' now2 some2 word2', F_X0_countLeadingHere_87 (F_X0_countLeadingHere_43L (nI ns) (nI (hm ns most)) (nI ls.length) crow (wl r) Lf Lh Li Lk fuel) (nI n') (nI ns) (nI (hm ns most)) (wl (Wd ns j)) (nI j) (nI ls.length) crow (wl r) ou' t2 Lf Lh Li Lk = some (v, nI ls.length, crow, ou2, t2') ∧ F_X11_back_82 (F_X11_back_52L (nI most) (co (some r)) fi (nI ls.length) line mrow fuel) (nI most) (co (some r)) (nI n') fi (nI ls.length) sz2 mk2 ch2 (nI (Wd ns j).length) line made2 now' mrow some1 word2 = some (v, fi, nI ls.length, sz2', mk2', ch2', ss2, line, made2', now2, mrow, some2, word2') ∧ rsl now now2 ∧ OC now2 ou2 := by
      intro n' ou' now' hn' hs' hO'
      unfold F_X0_countLeadingHere_87 F_X11_back_82
      obtain ⟨y, ssz, f', x1, x2⟩ := m_next (now := now') hI.2.1 h4 ((hs' 0 (by omega) (by omega)).trans n0) hj ha
      rw [w_next hI.2.1 hdg (by omega), b1_s, lt_e, nI_1, x1, b3_s]
      rcases x2 with ⟨rfl, hlast⟩ | ⟨rfl, hlt, rfl, ha'⟩
      · obtain ⟨fuel, rfl⟩ : ∃ g, fuel = g + 1 := ⟨fuel - 1, by omega⟩
        refine ⟨nI n', ou', t2, sz2, mk2, ch2, ssz, made2, now', f', word2, ?_, ?_, hs', hO'⟩
        · show F_X0_countLeadingHere_43 _ (nI n') (nI ns) (nI (hm ns most)) (wl (nr ns (Wd ns j))) (nI (j + 1)) (nI ls.length) crow (wl r) ou' t2 Lf Lh Li Lk = _
          unfold F_X0_countLeadingHere_43
          rw [if_pos (nI_le (by omega) (by omega))]
        · show F_X11_back_52 (F_X11_back_52L (nI most) (co (some r)) fi (nI ls.length) line mrow fuel) (nI most) (co (some r)) (nI n') 0 fi (nI ls.length) sz2 mk2 ch2 ssz line made2 now' mrow f' word2 = _
          unfold F_X11_back_52
          rw [if_pos rfl]
      · exact ih (j + 1) n' ou' t2 sz2 mk2 ch2 made2 now' f' word2 hlt hn' (by omega) hs' hO' ha'
    have hw1 : wo (ldA now ls (Wd ns j)) = wl r ↔ ldA now ls (Wd ns j) = some r := wo_inj hok hrok
    have hw2 := co_inj hok hrok
    unfold F_X0_countLeadingHere_43 F_X11_back_52
    rw [if_neg (nI_ge hj (by omega)), c1, b2_s, if_neg ne10, s1, b2_s, m1, b6_s]
    by_cases hP : ldA now ls (Wd ns j) = some r
    · rw [if_pos (hw1.mpr hP), if_pos (hw2.mpr hP)]
      unfold F_X0_showFirst F_X0_showFirst_0 F_X11_back_79
      by_cases cn : n = 0
      · obtain ⟨now', y1, y2, y3⟩ := m_tellSome (now := now1) (show (Wd ns j).length ≤ 4 by omega) ha
        rw [if_pos ((e0_ (by omega)).mpr cn), lt_e, b1_s, lt_e, if_pos ((e0_ (by omega)).mpr cn), y1, b1_s, lt_e, nI_1]
        exact tail (n + 1) (wl (Wd ns j)) now' (by omega) (rsl_tr hs y2) ⟨Wd ns j, hdg, hl16, rfl, y3⟩
      · have cn' : ¬ nI n = 0 := fun q => cn ((e0_ (by omega)).mp q)
        rw [if_neg cn', b1_s, lt_e, if_neg cn', lt_e, nI_1]
        exact tail (n + 1) ou1 now1 (by omega) hs hO
    · rw [if_neg (fun q => hP (hw1.mp q)), if_neg (fun q => hP (hw2.mp q))]
      exact tail n ou1 now1 (by omega) hs hO
end BK
set_option maxHeartbeats 1000000 in
theorem sim_back : Sim_back Rel := by
  intro wc ak fi kwd kou kga klc klt klw kLc kLf kLh kLi kLk kLK kLN kLY kMc kMf kSc kSr kSk kSn kSy kTc kTo kTO kTp wd ou ga lc lt lw Lc Lf Lh Li Lk LK LN LY Mc Mf Sc Sr Sk Sn Sy Tc To TO Tp wt f_row_count f_row_law tch isK wts mfi now mkept mwt m_many m_size m_makes m_changes m_someSize m_line m_made m_row m_some m_word z0 z1 hR
  obtain ⟨hW, hK, hF, hS⟩ := hR
  subst hF
  have hS0 := hS
  obtain ⟨ns, nl, nt, nm, hC, hSn, hL, hT, hM, ⟨r, hw⟩, hO, hLt, hG⟩ := hS
  obtain ⟨n0, n1, n2, n3, rfl, rfl, rfl, rfl, bb0, bb1, bb2, bb3⟩ := hC
  rcases ix_c z0 (n := nt) (by omega) with h | ⟨t, ht, rfl⟩
  · iterate 18 apply Exists.intro
    refine ⟨?e1, ?e2, hW, hK, ?e5, ?e3⟩
    case e1 => unfold F_X10_back F_X10_back_0 F_X10_back_21; rw [has7, has_no h]; rfl
    case e2 => unfold F_X11_back F_X11_back_0 F_X11_back_17; rw [is2_no n2 (by omega) h]; rfl
    case e5 => rfl
    case e3 => exact hS0
  · rcases in_c z1 0 4 with ⟨h1, h2⟩ | ⟨h1, h2, h3⟩
    · iterate 18 apply Exists.intro
      refine ⟨?e1, ?e2, hW, hK, ?e5, ?e3⟩
      case e1 => unfold F_X10_back F_X10_back_0 F_X10_back_21; rw [has7, has_yes (by omega) ht, b1_s, if_neg (by decide), tried, h1]; rfl
      case e2 => unfold F_X11_back F_X11_back_0 F_X11_back_17; rw [is2_yes n2 (by omega) ht, b1_s, if_neg (by decide), h1]; rfl
      case e5 => rfl
      case e3 => exact hS0
    · obtain ⟨most, hmost, rfl⟩ := in_n (b := 4) (m := 4) rfl (by decide) h2 h3
      obtain ⟨r1, r2, r3, r4, r5⟩ := hw
      have hw : WDr now ns wd r := ⟨r1, r2, r3, r4, r5⟩
      have hlen := rows_len hT.1 t ht
      have hv := rows_dn hT.1 t ht
      obtain ⟨law', c1, c2⟩ := c_fill hT.1 hT.2 ht f_row_count f_row_law
      obtain ⟨line', row', d1, d2⟩ := m_findLaws hT.1 ht m_many m_line m_row
      have hcd : F_X11_codeOf (nI 800) (nI r.length) now = some (co (some r)) := m_codeOf (by decide) (dn_dg r1 bb0) (by omega) r5
      have hK1 : 0 < hm ns most := by rw [hm_sh]; have := sh_mono (n := ns) (show 1 ≤ most + 1 by omega); have e : sh ns 1 = 1 := by simp [sh]
                                      omega
      have hKb := hm_b (n := ns) (m := most) bb0 hmost
      obtain ⟨v, ou2, t2, sz2, mk2, ch2, ss2, made2, now2, some2, word2, l1, l2, l3, l4⟩ := back_loop (line := line') hL.1 hL.2.1 n0 hmost c2 d2 (by omega) hv r1 r2 fi fu_ 0 0 ou tch m_size m_makes m_changes m_made now m_some m_word hK1 (Nat.zero_le _) (by unfold fu_; omega) (rsl_rf now) hO (fun i hi => absurd hi (Nat.not_lt_zero i))
      have hn : ∀ i, i ≠ 7 ∧ (i < 816 ∨ 848 ≤ i) → now2 i = now i := fun i hi => l3 i hi.1 hi.2
      iterate 18 apply Exists.intro
      refine ⟨?e1, ?e2, hW, hK, ?e5, ns, nl, nt, nm, ⟨(hn 0 (by omega)).trans n0, (hn 1 (by omega)).trans n1, (hn 2 (by omega)).trans n2, (hn 3 (by omega)).trans n3, rfl, rfl, rfl, rfl, bb0, bb1, bb2, bb3⟩, SN_c bb0 (fun i h4 h5 => hn i (by omega)) hSn, LL_c (fun i h4 h5 => hn i (by omega)) hL, TT_c (fun i h4 h5 => hn i (by omega)) hT, MN_c bb3 (fun i h4 h5 => hn i (by omega)) hM, ⟨r, WDr_c (hn 4 (by omega)) (fun i h4 h5 => hn i (by omega)) hw⟩, l4, LT_c (hn 5 (by omega)) (fun i h4 h5 => hn i (by omega)) hLt, GP_c (hn 6 (by omega)) hG⟩
      case e1 =>
        unfold F_X10_back F_X10_back_0 F_X0_countLeadingHere F_X0_countLeadingHere_0
        rw [has7, has_yes (by omega) ht, b1_s, if_neg (by decide), tried, h1, b1_s, if_neg (by decide), c1, b2_s, w_how bb0 hmost, b1_s, r3]
        exact (show bn5_ (F_X0_countLeadingHere_43L (nI ns) (nI (hm ns most)) (nI (rows now t).length) law' (wl r) Lf Lh Li Lk fu_ (nI 0) (wl (Wd ns 0)) (nI 0) ou tch) _ = _ by rw [l1]; rfl)
      case e2 =>
        unfold F_X11_back F_X11_back_0 F_X11_beginSome F_X11_beginSome_0
        rw [is2_yes n2 (by omega) ht, b1_s, if_neg (by decide), h1, b1_s, if_neg (by decide), d1, b3_s, ck_lit (i := 4) (n := 1600) (by decide), show (4 : Int32).toNatClampNeg = 4 by decide, r4, show (800 : Int32) = nI 800 from rfl, hcd, b1_s, lt_e, b1_s]
        exact l2
      case e5 => rfl
