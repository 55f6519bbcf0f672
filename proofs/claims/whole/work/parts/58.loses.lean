/-! loses -/
section LO
variable {now : Nat → Int32} {ns nl most : Nat} {ls : List Nat} {Lf Lh Li Lk crow line mrow : Nat → Int32}
theorem los_1 (K : Int32 → Int32 → Int32 → Int32 → Int32 → Int32 → Int32 → (Nat → Int32) → (Nat → Int32) → (Nat → Int64) → (Nat → Int32) → (Nat → Int32) → Option (Int32 × Int32 × Int32 × Int32 × Int32 × Int32 × Int32 × (Nat → Int32) × (Nat → Int32) × (Nat → Int32) × (Nat → Int32) × (Nat → Int64) × (Nat → Int32) × (Nat → Int32))) (x2 x3 x4 fi mn sz mk ch ss : Int32) (x6 : Int64) (line made now row : Nat → Int32) (seen : Nat → Int64) (some1 word : Nat → Int32) (i : Int32) (fuel : Nat) (hf : 0 < fuel) :
    F_X11_loses_61L K x2 x3 x4 x6 fi mn sz mk ch ss line made now row seen some1 word fuel 1 i = F_X11_loses_106 K x2 x3 x4 x6 1 fi mn sz mk ch ss line made now row seen some1 word := by
  cases fuel with
  | zero => omega
  | succ fuel =>
    have e0 : F_X11_loses_61L K x2 x3 x4 x6 fi mn sz mk ch ss line made now row seen some1 word (fuel + 1) 1 i = F_X11_loses_61 K (F_X11_loses_61L K x2 x3 x4 x6 fi mn sz mk ch ss line made now row seen some1 word fuel) x2 x3 x4 x6 1 i fi mn sz mk ch ss line made now row seen some1 word := rfl
    rw [e0]
    unfold F_X11_loses_61
    rw [if_neg ne10, ite_self]
theorem los_no (K : Int32 → Int32 → Int32 → Int32 → Int32 → Int32 → Int32 → (Nat → Int32) → (Nat → Int32) → (Nat → Int64) → (Nat → Int32) → (Nat → Int32) → Option (Int32 × Int32 × Int32 × Int32 × Int32 × Int32 × Int32 × (Nat → Int32) × (Nat → Int32) × (Nat → Int32) × (Nat → Int32) × (Nat → Int64) × (Nat → Int32) × (Nat → Int32))) (x2 x3 fi mn sz mk ch ss : Int32) (x6 : Int64) (line made now row : Nat → Int32) (seen : Nat → Int64) (some1 word : Nat → Int32) {j : Nat} (hj : j < 4700) (fuel : Nat) : ∀ i, i ≤ j → j - i < fuel → (∀ k, i ≤ k → k < j → x6 < 0 ∨ seen k ≠ x6) →
    F_X11_loses_61L K x2 x3 (nI j) x6 fi mn sz mk ch ss line made now row seen some1 word fuel 0 (nI i) = F_X11_loses_106 K x2 x3 (nI j) x6 0 fi mn sz mk ch ss line made now row seen some1 word := by
  induction fuel with
  | zero => intro i _ h; exact absurd h (Nat.not_lt_zero _)
  | succ fuel ih =>
    intro i hi hf hk
    have e0 : F_X11_loses_61L K x2 x3 (nI j) x6 fi mn sz mk ch ss line made now row seen some1 word (fuel + 1) 0 (nI i) = F_X11_loses_61 K (F_X11_loses_61L K x2 x3 (nI j) x6 fi mn sz mk ch ss line made now row seen some1 word fuel) x2 x3 (nI j) x6 0 (nI i) fi mn sz mk ch ss line made now row seen some1 word := rfl
    rw [e0]
    unfold F_X11_loses_61 F_X11_loses_97 F_X11_loses_98
    by_cases c : i = j
    · rw [if_pos (by rw [c]; exact nI_le (Nat.le_refl _) (by omega))]
    · have hrec := ih (i + 1) (by omega) (by omega) (fun k h1 h2 => hk k (by omega) h2)
      rw [if_neg (nI_ge (by omega) (by omega)), if_pos rfl, ck_ok rfl (show i < 4700 by omega) (by decide), nI_clamp (n := i) (by omega), lt_e, lt_e, nI_1]
      rcases hk i (Nat.le_refl _) (by omega) with q | q
      · rw [if_pos q]; exact hrec
      · rw [if_neg q, hrec, ite_self]
theorem los_yes (K : Int32 → Int32 → Int32 → Int32 → Int32 → Int32 → Int32 → (Nat → Int32) → (Nat → Int32) → (Nat → Int64) → (Nat → Int32) → (Nat → Int32) → Option (Int32 × Int32 × Int32 × Int32 × Int32 × Int32 × Int32 × (Nat → Int32) × (Nat → Int32) × (Nat → Int32) × (Nat → Int32) × (Nat → Int64) × (Nat → Int32) × (Nat → Int32))) (x2 x3 fi mn sz mk ch ss : Int32) (x6 : Int64) (line made now row : Nat → Int32) (seen : Nat → Int64) (some1 word : Nat → Int32) {j : Nat} (hj : j < 4700) (h0 : ¬ x6 < 0) {k : Nat} (hkj : k < j) (hk : seen k = x6) (fuel : Nat) : ∀ i, i ≤ k → k - i + 1 < fuel →
    F_X11_loses_61L K x2 x3 (nI j) x6 fi mn sz mk ch ss line made now row seen some1 word fuel 0 (nI i) = F_X11_loses_106 K x2 x3 (nI j) x6 1 fi mn sz mk ch ss line made now row seen some1 word := by
  induction fuel with
  | zero => intro i _ h; exact absurd h (Nat.not_lt_zero _)
  | succ fuel ih =>
    intro i hi hf
    have e0 : F_X11_loses_61L K x2 x3 (nI j) x6 fi mn sz mk ch ss line made now row seen some1 word (fuel + 1) 0 (nI i) = F_X11_loses_61 K (F_X11_loses_61L K x2 x3 (nI j) x6 fi mn sz mk ch ss line made now row seen some1 word fuel) x2 x3 (nI j) x6 0 (nI i) fi mn sz mk ch ss line made now row seen some1 word := rfl
    rw [e0]
    unfold F_X11_loses_61 F_X11_loses_97 F_X11_loses_98
    rw [if_neg (nI_ge (by omega) (by omega)), if_pos rfl, if_neg h0, ck_ok rfl (show i < 4700 by omega) (by decide), nI_clamp (n := i) (by omega), lt_e, lt_e, nI_1]
    by_cases c : seen i = x6
    · rw [if_pos c, los_1 _ _ _ _ _ _ _ _ _ _ _ _ _ _ _ _ _ _ _ _ (by omega)]
    · rw [if_neg c]
      have : i ≠ k := fun q => c (by rw [q]; exact hk)
      exact ih (i + 1) (by omega) (by omega)
theorem loses_loop (hI : LI now ns nl) (hC : LC now ns nl Lf Lh Li Lk) (n0 : now 0 = nI ns) (h4 : most ≤ 4) (hcr : arr crow ls) (hmr : arr mrow ls) (h36 : ls.length ≤ 36) (hv : dn nl ls) (fi : Int32) (fuel : Nat) :
    ∀ (j n : Nat) (ou1 : Int64) (t1 sz mk ch : Int32) (slot : Nat → Int64) (made now1 : Nat → Int32) (seen : Nat → Int64) (some1 word : Nat → Int32), j < hm ns most → n ≤ j → hm ns most - j + 1 < fuel → rsl now now1 → OC now1 ou1 → arr some1 (Wd ns j).reverse → HS slot (fun i => ldA now ls (Wd ns i)) j → (∀ k, k < j → seen k = co (ldA now ls (Wd ns k))) →
    ∃ v ou2 t2 slot2 sz2 mk2 ch2 ss2 made2 now2 seen2 some2 word2, F_X0_countLost_50L (nI ns) (nI (hm ns most)) (nI ls.length) crow Lf Lh Li Lk fuel (nI n) (wl (Wd ns j)) (nI j) slot ou1 t1 = some (v, nI ls.length, crow, slot2, ou2, t2) ∧ F_X11_loses_40L (nI most) fi (nI ls.length) line mrow fuel (nI n) (nI j) 1 sz mk ch (nI (Wd ns j).length) made now1 seen some1 word = some (v, fi, nI ls.length, sz2, mk2, ch2, ss2, line, made2, now2, mrow, seen2, some2, word2) ∧ rsl now now2 ∧ OC now2 ou2 := by
  have hK := hm_b (n := ns) (m := most) hI.2.1 h4
  have hGok : ∀ i, i < hm ns most → okW (ldA now ls (Wd ns i)) := fun i hi => ldA_ok hI hv (Wd_ok hi).1 (Wd_16 h4 hi)
  induction fuel with
  | zero => intro j n ou1 t1 sz mk ch slot made now1 seen some1 word _ _ h; exact absurd h (Nat.not_lt_zero _)
  | succ fuel ih =>
    intro j n ou1 t1 sz mk ch slot made now1 seen some1 word hj hn hf hs hO ha hHS hsn
    have e0 : F_X0_countLost_50L (nI ns) (nI (hm ns most)) (nI ls.length) crow Lf Lh Li Lk (fuel + 1) (nI n) (wl (Wd ns j)) (nI j) slot ou1 t1 = F_X0_countLost_50 (F_X0_countLost_50L (nI ns) (nI (hm ns most)) (nI ls.length) crow Lf Lh Li Lk fuel) (nI n) (nI ns) (nI (hm ns most)) (wl (Wd ns j)) (nI j) (nI ls.length) crow slot ou1 t1 Lf Lh Li Lk := rfl
    have e1 : F_X11_loses_40L (nI most) fi (nI ls.length) line mrow (fuel + 1) (nI n) (nI j) 1 sz mk ch (nI (Wd ns j).length) made now1 seen some1 word = F_X11_loses_40 (F_X11_loses_40L (nI most) fi (nI ls.length) line mrow fuel) (nI most) (nI n) (nI j) 1 fi (nI ls.length) sz mk ch (nI (Wd ns j).length) line made now1 mrow seen some1 word := rfl
    rw [e0, e1]
    obtain ⟨hd, hl4⟩ := Wd_ok hj
    have hl16 := Wd_16 h4 hj
    have hdg := dn_dg hd hI.2.1
    obtain ⟨t2, c1⟩ := c_leadAlong hI hC hcr h36 hv t1 hd hl16
    obtain ⟨w', s1, s2⟩ := m_takeSome (by omega) ha sz word
    have hI1 := rsl_LI hs hI
    have hld := ldA_c (rsl_ag hs) hI.1 ls (Wd ns j) hv
    have hok := hGok j hj
    obtain ⟨sz2, mk2, ch2, made2, word2, m1⟩ := m_code hI1 hmr h36 hv mk ch made w' hd hl16 s2 (by rw [hld]; exact hok)
    rw [hld] at m1
    have hsn' : ∀ k, k < j + 1 → vp_updL seen j (co (ldA now ls (Wd ns j))) k = co (ldA now ls (Wd ns k)) := fun k hk => by
      by_cases c : k = j
      · rw [c, pk_uLs]
      · rw [pk_uLn c]; exact hsn k (by omega)
    have tail : ∀ (n' : Nat) (ou' : Int64) (now' : Nat → Int32) (slot' : Nat → Int64), n' ≤ j + 1 → rsl now now' → OC now' ou' → HS slot' (fun i => ldA now ls (Wd ns i)) (j + 1) → ∃ v ou2 t2' slot2 sz2' mk2' ch2' ss2 made2' now2 seen2 some2 word2', F_X0_countLost_104 (F_X0_countLost_50L (nI ns) (nI (hm ns most)) (nI ls.length) crow Lf Lh Li Lk fuel) (nI n') (nI ns) (nI (hm ns most)) (wl (Wd ns j)) (nI j) (nI ls.length) crow slot' ou' t2 Lf Lh Li Lk = some (v, nI ls.length, crow, slot2, ou2, t2') ∧ F_X11_loses_134 (F_X11_loses_40L (nI most) fi (nI ls.length) line mrow fuel) (nI most) (nI n') (nI (j + 1)) fi (nI ls.length) sz2 mk2 ch2 (nI (Wd ns j).length) line made2 now' mrow (vp_updL seen j (co (ldA now ls (Wd ns j)))) some1 word2 = some (v, fi, nI ls.length, sz2', mk2', ch2', ss2, line, made2', now2, mrow, seen2, some2, word2') ∧ rsl now now2 ∧ OC now2 ou2 := by
      intro n' ou' now' slot' hn' hs' hO' hH'
      unfold F_X0_countLost_104 F_X11_loses_134
      obtain ⟨y, ssz, f', x1, x2⟩ := m_next (now := now') hI.2.1 h4 ((hs' 0 (by omega) (by omega)).trans n0) hj ha
      rw [w_next hI.2.1 hdg (by omega), b1_s, lt_e, nI_1, x1, b3_s]
      rcases x2 with ⟨rfl, hlast⟩ | ⟨rfl, hlt, rfl, ha'⟩
      · obtain ⟨fuel, rfl⟩ : ∃ g, fuel = g + 1 := ⟨fuel - 1, by omega⟩
        refine ⟨nI n', ou', t2, slot', sz2, mk2, ch2, ssz, made2, now', vp_updL seen j (co (ldA now ls (Wd ns j))), f', word2, ?_, ?_, hs', hO'⟩
        · show F_X0_countLost_50 (F_X0_countLost_50L (nI ns) (nI (hm ns most)) (nI ls.length) crow Lf Lh Li Lk fuel) (nI n') (nI ns) (nI (hm ns most)) (wl (nr ns (Wd ns j))) (nI (j + 1)) (nI ls.length) crow slot' ou' t2 Lf Lh Li Lk = _
          unfold F_X0_countLost_50
          rw [if_pos (nI_le (by omega) (by omega))]
        · show F_X11_loses_40 (F_X11_loses_40L (nI most) fi (nI ls.length) line mrow fuel) (nI most) (nI n') (nI (j + 1)) 0 fi (nI ls.length) sz2 mk2 ch2 ssz line made2 now' mrow (vp_updL seen j (co (ldA now ls (Wd ns j)))) f' word2 = _
          unfold F_X11_loses_40
          rw [if_pos rfl]
      · exact ih (j + 1) n' ou' t2 sz2 mk2 ch2 slot' made2 now' _ f' word2 hlt hn' (by omega) hs' hO' ha' hH' hsn'
    unfold F_X0_countLost_50 F_X11_loses_40
    rw [if_neg (nI_ge hj (by omega)), c1, b2_s, if_neg ne10, s1, b2_s, m1, b6_s]
    have e00 : (0 : Int32) = nI 0 := rfl
    cases hg : ldA now ls (Wd ns j) with
    | none =>
      have hlos := los_no (F_X11_loses_40L (nI most) fi (nI ls.length) line mrow fuel) (nI most) (nI n) fi (nI ls.length) sz2 mk2 ch2 (nI (Wd ns j).length) (co none) line made2 now1 mrow seen some1 word2 (j := j) (by omega) fu_ 0 (Nat.zero_le _) (by unfold fu_; omega) (fun k _ _ => Or.inl (by decide))
      rw [if_pos (show wo none = 0 from rfl)]
      have hX : F_X11_loses_61L (F_X11_loses_40L (nI most) fi (nI ls.length) line mrow fuel) (nI most) (nI n) (nI j) (co none) fi (nI ls.length) sz2 mk2 ch2 (nI (Wd ns j).length) line made2 now1 mrow seen some1 word2 fu_ 0 0 = F_X11_loses_134 (F_X11_loses_40L (nI most) fi (nI ls.length) line mrow fuel) (nI most) (nI n) (nI (j + 1)) fi (nI ls.length) sz2 mk2 ch2 (nI (Wd ns j).length) line made2 now1 mrow (vp_updL seen j (co (ldA now ls (Wd ns j)))) some1 word2 := by
        refine hlos.trans ?_
        unfold F_X11_loses_106
        rw [ck_ok rfl (show j < 4700 by omega) (by decide), lt_e, lt_e, if_pos rfl, nI_1, nI_clamp (n := j) (by omega), hg]
      rw [hX]
      exact tail n ou1 now1 slot (by omega) hs hO (HS_none hHS hg)
    | some x =>
      have hxo := hok x hg
      have hw0 : ¬ wo (some x) = 0 := wl_ne0 hxo.1 (by omega)
      obtain ⟨y, slot', i1, i2, i3⟩ := HS_step (fun i hi => hGok i (by omega)) hHS (by omega) (x := x) hg
      have hneg : ¬ co (some x) < 0 := by
        have h1 := cdw_lt hxo.1 hxo.2
        have h2 := pk_lLT (a := cdw x) (b := 0) (by omega) (by decide)
        exact fun q => absurd (h2.mp q) (Nat.not_lt_zero _)
      rw [if_neg hw0, show wo (some x) = wl x from rfl, i1, b2_s]
      rcases i3 with ⟨rfl, k, hk, hGk⟩ | ⟨rfl, hno⟩
      · have hlos := los_yes (F_X11_loses_40L (nI most) fi (nI ls.length) line mrow fuel) (nI most) (nI n) fi (nI ls.length) sz2 mk2 ch2 (nI (Wd ns j).length) (co (some x)) line made2 now1 mrow seen some1 word2 (j := j) (by omega) hneg hk (by rw [hsn k hk]; exact congrArg co hGk) fu_ 0 (Nat.zero_le _) (by unfold fu_; omega)
        rw [if_pos rfl]
        by_cases cn : n = 0
        · obtain ⟨now', y1, y2, y3⟩ := m_tellSome (now := now1) (show (Wd ns j).length ≤ 4 by omega) ha
          have hX : F_X11_loses_61L (F_X11_loses_40L (nI most) fi (nI ls.length) line mrow fuel) (nI most) (nI n) (nI j) (co (some x)) fi (nI ls.length) sz2 mk2 ch2 (nI (Wd ns j).length) line made2 now1 mrow seen some1 word2 fu_ 0 0 = F_X11_loses_134 (F_X11_loses_40L (nI most) fi (nI ls.length) line mrow fuel) (nI most) (nI (n + 1)) (nI (j + 1)) fi (nI ls.length) sz2 mk2 ch2 (nI (Wd ns j).length) line made2 now' mrow (vp_updL seen j (co (ldA now ls (Wd ns j)))) some1 word2 := by
            refine hlos.trans ?_
            unfold F_X11_loses_106 F_X11_loses_131
            rw [ck_ok rfl (show j < 4700 by omega) (by decide), lt_e, lt_e, if_neg ne10, if_pos ((e0_ (by omega)).mpr cn), y1, b1_s, lt_e, nI_1, nI_1, nI_clamp (n := j) (by omega), hg]
          unfold F_X0_showFirst F_X0_showFirst_0
          rw [hX, if_pos ((e0_ (by omega)).mpr cn), lt_e, b1_s, lt_e, nI_1]
          exact tail (n + 1) (wl (Wd ns j)) now' slot' (by omega) (rsl_tr hs y2) ⟨Wd ns j, hdg, hl16, rfl, y3⟩ i2
        · have cn' : ¬ nI n = 0 := fun q => cn ((e0_ (by omega)).mp q)
          have hX : F_X11_loses_61L (F_X11_loses_40L (nI most) fi (nI ls.length) line mrow fuel) (nI most) (nI n) (nI j) (co (some x)) fi (nI ls.length) sz2 mk2 ch2 (nI (Wd ns j).length) line made2 now1 mrow seen some1 word2 fu_ 0 0 = F_X11_loses_134 (F_X11_loses_40L (nI most) fi (nI ls.length) line mrow fuel) (nI most) (nI (n + 1)) (nI (j + 1)) fi (nI ls.length) sz2 mk2 ch2 (nI (Wd ns j).length) line made2 now1 mrow (vp_updL seen j (co (ldA now ls (Wd ns j)))) some1 word2 := by
            refine hlos.trans ?_
            unfold F_X11_loses_106 F_X11_loses_131
            rw [ck_ok rfl (show j < 4700 by omega) (by decide), lt_e, lt_e, if_neg ne10, if_neg cn', lt_e, nI_1, nI_1, nI_clamp (n := j) (by omega), hg]
          unfold F_X0_showFirst F_X0_showFirst_0
          rw [hX, if_neg cn', b1_s, lt_e, nI_1]
          exact tail (n + 1) ou1 now1 slot' (by omega) hs hO i2
      · have hlos := los_no (F_X11_loses_40L (nI most) fi (nI ls.length) line mrow fuel) (nI most) (nI n) fi (nI ls.length) sz2 mk2 ch2 (nI (Wd ns j).length) (co (some x)) line made2 now1 mrow seen some1 word2 (j := j) (by omega) fu_ 0 (Nat.zero_le _) (by unfold fu_; omega) (fun k _ hk => Or.inr (fun q => hno k hk (by
          rw [hsn k hk] at q
          exact (co_inj (hGok k (by omega)) (okW_some hxo.1 hxo.2)).mp q)))
        have hX : F_X11_loses_61L (F_X11_loses_40L (nI most) fi (nI ls.length) line mrow fuel) (nI most) (nI n) (nI j) (co (some x)) fi (nI ls.length) sz2 mk2 ch2 (nI (Wd ns j).length) line made2 now1 mrow seen some1 word2 fu_ 0 0 = F_X11_loses_134 (F_X11_loses_40L (nI most) fi (nI ls.length) line mrow fuel) (nI most) (nI n) (nI (j + 1)) fi (nI ls.length) sz2 mk2 ch2 (nI (Wd ns j).length) line made2 now1 mrow (vp_updL seen j (co (ldA now ls (Wd ns j)))) some1 word2 := by
          refine hlos.trans ?_
          unfold F_X11_loses_106
          rw [ck_ok rfl (show j < 4700 by omega) (by decide), lt_e, lt_e, if_pos rfl, nI_1, nI_clamp (n := j) (by omega), hg]
        rw [if_neg ne10, hX]
        exact tail n ou1 now1 slot' (by omega) hs hO i2
end LO
set_option maxHeartbeats 1000000 in
theorem sim_loses : Sim_loses Rel := by
  intro wc ak fi kwd kou kga klc klt klw kLc kLf kLh kLi kLk kLK kLN kLY kMc kMf kSc kSr kSk kSn kSy kTc kTo kTO kTp wd ou ga lc lt lw Lc Lf Lh Li Lk LK LN LY Mc Mf Sc Sr Sk Sn Sy Tc To TO Tp wt f_row_count f_row_law f_seen_slot tch isK wts mfi now mkept mwt m_many m_size m_makes m_changes m_someSize m_line m_made m_row m_seen m_some m_word z0 z1 hR
  obtain ⟨hW, hK, hF, hS⟩ := hR
  subst hF
  have hS0 := hS
  obtain ⟨ns, nl, nt, nm, hC, hSn, hL, hT, hM, ⟨r, hw⟩, hO, hLt, hG⟩ := hS
  obtain ⟨n0, n1, n2, n3, rfl, rfl, rfl, rfl, bb0, bb1, bb2, bb3⟩ := hC
  rcases ix_c z0 (n := nt) (by omega) with h | ⟨t, ht, rfl⟩
  · iterate 20 apply Exists.intro
    refine ⟨?e1, ?e2, hW, hK, ?e5, ?e3⟩
    case e1 => unfold F_X10_loses F_X10_loses_0 F_X10_loses_21; rw [has7, has_no h]; rfl
    case e2 => unfold F_X11_loses F_X11_loses_0 F_X11_loses_17; rw [is2_no n2 (by omega) h]; rfl
    case e5 => rfl
    case e3 => exact hS0
  · rcases in_c z1 0 4 with ⟨h1, h2⟩ | ⟨h1, h2, h3⟩
    · iterate 20 apply Exists.intro
      refine ⟨?e1, ?e2, hW, hK, ?e5, ?e3⟩
      case e1 => unfold F_X10_loses F_X10_loses_0 F_X10_loses_21; rw [has7, has_yes (by omega) ht, b1_s, if_neg (by decide), tried, h1]; rfl
      case e2 => unfold F_X11_loses F_X11_loses_0 F_X11_loses_17; rw [is2_yes n2 (by omega) ht, b1_s, if_neg (by decide), h1]; rfl
      case e5 => rfl
      case e3 => exact hS0
    · obtain ⟨most, hmost, rfl⟩ := in_n (b := 4) (m := 4) rfl (by decide) h2 h3
      have hlen := rows_len hT.1 t ht
      have hv := rows_dn hT.1 t ht
      obtain ⟨law', c1, c2⟩ := c_fill hT.1 hT.2 ht f_row_count f_row_law
      obtain ⟨line', row', d1, d2⟩ := m_findLaws hT.1 ht m_many m_line m_row
      obtain ⟨slot', q1, q2⟩ := c_clear f_seen_slot (fun i => ldA now (rows now t) (Wd ns i))
      have hKb := hm_b (n := ns) (m := most) bb0 hmost
      obtain ⟨v, ou2, t2, slot2, sz2, mk2, ch2, ss2, made2, now2, seen2, some2, word2, l1, l2, l3, l4⟩ := loses_loop (line := line') hL.1 hL.2.1 n0 hmost c2 d2 (by omega) hv fi fu_ 0 0 ou tch m_size m_makes m_changes slot' m_made now m_seen m_some m_word (hm_pos ns most) (Nat.zero_le _) (by unfold fu_; omega) (rsl_rf now) hO (fun i hi => absurd hi (Nat.not_lt_zero i)) q2 (fun k h => absurd h (Nat.not_lt_zero k))
      have hn : ∀ i, i ≠ 7 ∧ (i < 816 ∨ 848 ≤ i) → now2 i = now i := fun i hi => l3 i hi.1 hi.2
      iterate 20 apply Exists.intro
      refine ⟨?e1, ?e2, hW, hK, ?e5, ns, nl, nt, nm, ⟨(hn 0 (by omega)).trans n0, (hn 1 (by omega)).trans n1, (hn 2 (by omega)).trans n2, (hn 3 (by omega)).trans n3, rfl, rfl, rfl, rfl, bb0, bb1, bb2, bb3⟩, SN_c bb0 (fun i h4 h5 => hn i (by omega)) hSn, LL_c (fun i h4 h5 => hn i (by omega)) hL, TT_c (fun i h4 h5 => hn i (by omega)) hT, MN_c bb3 (fun i h4 h5 => hn i (by omega)) hM, ⟨r, WDr_c (hn 4 (by omega)) (fun i h4 h5 => hn i (by omega)) hw⟩, l4, LT_c (hn 5 (by omega)) (fun i h4 h5 => hn i (by omega)) hLt, GP_c (hn 6 (by omega)) hG⟩
      case e1 =>
        unfold F_X10_loses F_X10_loses_0 F_X0_countLost F_X0_countLost_0
        rw [has7, has_yes (by omega) ht, b1_s, if_neg (by decide), tried, h1, b1_s, if_neg (by decide), c1, b2_s, q1, b1_s, w_how bb0 hmost, b1_s]
        exact (show bn6_ (F_X0_countLost_50L (nI ns) (nI (hm ns most)) (nI (rows now t).length) law' Lf Lh Li Lk fu_ (nI 0) (wl (Wd ns 0)) (nI 0) slot' ou tch) _ = _ by rw [l1]; rfl)
      case e2 =>
        unfold F_X11_loses F_X11_loses_0 F_X11_beginSome F_X11_beginSome_0
        rw [is2_yes n2 (by omega) ht, b1_s, if_neg (by decide), h1, b1_s, if_neg (by decide), d1, b3_s, lt_e, b1_s]
        exact l2
      case e5 => rfl
