/-! check -/
def eqs (wt : Nat → Int32) : Nat → List Nat → Bool
  | _, [] => true
  | p, s :: xs => decide (wt p = nI s) && eqs wt (p + 1) xs
def tld (wt : Nat → Int32) (n at0 : Nat) (x : List Nat) : Bool := decide (at0 + x.length < n) && (decide (wt at0 = nI x.length) && eqs wt (at0 + 1) x.reverse)
theorem getD_rev {q : List Nat} {j : Nat} (hj : j < q.length) : q.getD (q.length - 1 - j) 0 = q.reverse.getD j 0 := by
  rw [List.getD_eq_getElem?_getD, List.getD_eq_getElem?_getD, List.getElem?_reverse hj]
theorem c_toldL {x : List Nat} (hx : dg x) (hl : x.length ≤ 16) (wt : Nat → Int32) {at0 : Nat} (ha : at0 + x.length < 300) (fuel : Nat) : ∀ i, i ≤ x.length → x.length - i < fuel → F_X3_isTold_28L (wl x) (nI at0) (nI x.length) wt fuel (nI i) = some (b2 (eqs wt (at0 + 1 + i) (x.reverse.drop i))) := by
  induction fuel with
  | zero => intro i _ h; exact absurd h (Nat.not_lt_zero _)
  | succ fuel ih =>
    intro i hi hf
    have e0 : F_X3_isTold_28L (wl x) (nI at0) (nI x.length) wt (fuel + 1) (nI i) = F_X3_isTold_28 (F_X3_isTold_28L (wl x) (nI at0) (nI x.length) wt fuel) (wl x) (nI at0) (nI x.length) (nI i) wt := rfl
    rw [e0]
    unfold F_X3_isTold_28
    by_cases c : i = x.length
    · rw [if_pos (by rw [c]; exact nI_le (Nat.le_refl _) (by omega)), List.drop_eq_nil_of_le (by rw [List.length_reverse]; omega)]
      rfl
    · have hi2 : i < x.length := by omega
      rw [if_neg (nI_ge hi2 (by omega)), nI_1, nI_add, ck_ok rfl (show at0 + 1 + i < 300 by omega) (by decide), w_at hx hl hi2, b1_s, nI_clamp (n := at0 + 1 + i) (by omega), getD_rev hi2, drop_hd (xs := x.reverse) (by rw [List.length_reverse]; exact hi2), nI_1]
      show _ = some (b2 (decide (wt (at0 + 1 + i) = nI (x.reverse.getD i 0)) && eqs wt (at0 + 1 + i + 1) (x.reverse.drop (i + 1))))
      by_cases c2 : wt (at0 + 1 + i) = nI (x.reverse.getD i 0)
      · rw [if_pos c2, lt_e, ih (i + 1) (by omega) (by omega), decide_eq_true c2, Bool.true_and]
        rfl
      · rw [if_neg c2, decide_eq_false c2, Bool.false_and]
        rfl
theorem c_told {x : List Nat} (hx : dg x) (hl : x.length ≤ 16) (wt : Nat → Int32) {n at0 : Nat} (hn : n ≤ 300) (ha : at0 ≤ n) : F_X3_isTold (wl x) (nI at0) (nI n) wt = some (b2 (tld wt n at0 x)) := by
  unfold F_X3_isTold F_X3_isTold_0 tld
  rw [w_size hx hl, b1_s, nI_add]
  by_cases c : at0 + x.length < n
  · rw [if_neg (nI_ge c (by omega)), ck_ok rfl (show at0 < 300 by omega) (by decide), nI_clamp (n := at0) (by omega), decide_eq_true c, Bool.true_and]
    by_cases c2 : wt at0 = nI x.length
    · rw [if_pos c2, decide_eq_true c2, Bool.true_and]
      have := c_toldL hx hl wt (at0 := at0) (by omega) fu_ 0 (Nat.zero_le _) (by unfold fu_; omega)
      rw [List.drop_zero] at this
      exact this
    · rw [if_neg c2, decide_eq_false c2, Bool.false_and]
      rfl
  · rw [if_pos (nI_le (by omega) (by omega)), decide_eq_false c, Bool.false_and]
    rfl
theorem m_toldN (x1 size : Int32) (wt word : Nat → Int32) (i : Int32) (fuel : Nat) (hf : 0 < fuel) : F_X11_isTold_37L x1 size wt word fuel 0 i = some 0 := by
  cases fuel with
  | zero => omega
  | succ fuel =>
    have e0 : F_X11_isTold_37L x1 size wt word (fuel + 1) 0 i = F_X11_isTold_37 (F_X11_isTold_37L x1 size wt word fuel) x1 0 i size wt word := rfl
    rw [e0]
    unfold F_X11_isTold_37
    rw [if_pos rfl, ite_self]
    rfl
theorem m_toldL {x : List Nat} (hl : x.length ≤ 16) (wt : Nat → Int32) {word : Nat → Int32} (hw : arr word x.reverse) {at0 : Nat} (ha : at0 + x.length < 300) (fuel : Nat) : ∀ i, i ≤ x.length → x.length - i + 1 < fuel → F_X11_isTold_37L (nI at0) (nI x.length) wt word fuel 1 (nI i) = some (b2 (eqs wt (at0 + 1 + i) (x.reverse.drop i))) := by
  induction fuel with
  | zero => intro i _ h; exact absurd h (Nat.not_lt_zero _)
  | succ fuel ih =>
    intro i hi hf
    have e0 : F_X11_isTold_37L (nI at0) (nI x.length) wt word (fuel + 1) 1 (nI i) = F_X11_isTold_37 (F_X11_isTold_37L (nI at0) (nI x.length) wt word fuel) (nI at0) 1 (nI i) (nI x.length) wt word := rfl
    rw [e0]
    unfold F_X11_isTold_37 F_X11_isTold_76
    by_cases c : i = x.length
    · rw [if_pos (by rw [c]; exact nI_le (Nat.le_refl _) (by omega)), List.drop_eq_nil_of_le (by rw [List.length_reverse]; omega)]
      rfl
    · have hi2 : i < x.length := by omega
      rw [if_neg (nI_ge hi2 (by omega)), if_neg (by decide), nI_1, nI_add, ck_ok rfl (show at0 + 1 + i < 300 by omega) (by decide), ck_ok rfl (show i < 16 by omega) (by decide), nI_clamp (n := at0 + 1 + i) (by omega), nI_clamp (n := i) (by omega), hw i (by rw [List.length_reverse]; exact hi2), drop_hd (xs := x.reverse) (by rw [List.length_reverse]; exact hi2), nI_1]
      show _ = some (b2 (decide (wt (at0 + 1 + i) = nI (x.reverse.getD i 0)) && eqs wt (at0 + 1 + i + 1) (x.reverse.drop (i + 1))))
      by_cases c2 : wt (at0 + 1 + i) = nI (x.reverse.getD i 0)
      · rw [if_pos c2, lt_e, ih (i + 1) (by omega) (by omega), decide_eq_true c2, Bool.true_and]
        rfl
      · rw [if_neg c2, lt_e, m_toldN _ _ _ _ _ _ (by omega), decide_eq_false c2, Bool.false_and]
        rfl
theorem m_told {x : List Nat} (hl : x.length ≤ 16) (wt : Nat → Int32) {word : Nat → Int32} (hw : arr word x.reverse) {n at0 : Nat} (hn : n ≤ 300) (ha : at0 ≤ n) : F_X11_isTold (nI at0) (nI n) (nI x.length) wt word = some (b2 (tld wt n at0 x)) := by
  have hN : F_X11_isTold_32 (nI at0) (nI x.length) wt word = some 0 := by
    unfold F_X11_isTold_32 F_X11_isTold_33
    exact m_toldN _ _ _ _ _ _ (by unfold fu_; omega)
  unfold F_X11_isTold F_X11_isTold_0 tld
  rw [nI_add, hN]
  by_cases c0 : at0 < n
  · rw [if_neg (nI_ge c0 (by omega)), ck_ok rfl (show at0 < 300 by omega) (by decide), nI_clamp (n := at0) (by omega)]
    by_cases c2 : wt at0 = nI x.length
    · rw [if_pos c2, decide_eq_true c2, Bool.true_and]
      by_cases c : at0 + x.length < n
      · rw [if_neg (nI_ge c (by omega)), decide_eq_true c, Bool.true_and]
        have := m_toldL hl wt hw (at0 := at0) (by omega) fu_ 0 (Nat.zero_le _) (by unfold fu_; omega)
        rw [List.drop_zero] at this
        exact this
      · rw [if_pos (nI_le (by omega) (by omega)), decide_eq_false c, Bool.false_and]
        rfl
    · rw [if_neg c2, decide_eq_false c2, Bool.false_and, Bool.and_false]
      rfl
  · rw [if_pos (nI_le (by omega) (by omega)), decide_eq_false (by omega), Bool.false_and]
    rfl
section CHK
variable {now : Nat → Int32} {ns nl : Nat} {ls r : List Nat}
theorem chk_loop {g : List Nat} {row line : Nat → Int32} {tA : Nat → Int32} {wA : Nat → Int64} {n : Nat} (hn : n ≤ 300) (wt : Nat → Int32) (hI : LI now ns nl) (hls : arr row ls) (h36 : ls.length ≤ 36) (hv : dn nl ls) (hr : dn ns r) (hrl : r.length ≤ 16) (hg : ldA now ls r = some g) (hp : PTc now ls r ls.length tA wA) (wz fi : Int32) (fuel : Nat) :
    ∀ (k at0 : Nat) (x : List Nat) (mk ch : Int32) (made word : Nat → Int32), k ≤ ls.length → ls.length - k < fuel → at0 ≤ n → ldA now (ls.take k) r = some x → arr word x.reverse →
    ∃ v sz' mk' ch' made' word', F_X3_firstWrong_5L (nI n) wt (nI ls.length) wA fuel (nI at0) (nI k) = some v ∧ F_X11_check_56L (nI n) wz fi (nI ls.length) line now row wt fuel (nI at0) (nI k) (nI x.length) mk ch made word = some (v, wz, fi, nI ls.length, sz', mk', ch', line, made', row, word') := by
  induction fuel with
  | zero => intro k at0 x mk ch made word _ h; exact absurd h (Nat.not_lt_zero _)
  | succ fuel ih =>
    intro k at0 x mk ch made word hk hf ha hx hw
    have e0 : F_X3_firstWrong_5L (nI n) wt (nI ls.length) wA (fuel + 1) (nI at0) (nI k) = F_X3_firstWrong_5 (F_X3_firstWrong_5L (nI n) wt (nI ls.length) wA fuel) (nI n) (nI at0) (nI k) wt (nI ls.length) wA := rfl
    have e1 : F_X11_check_56L (nI n) wz fi (nI ls.length) line now row wt (fuel + 1) (nI at0) (nI k) (nI x.length) mk ch made word = F_X11_check_56 (F_X11_check_56L (nI n) wz fi (nI ls.length) line now row wt fuel) (nI n) (nI at0) (nI k) wz fi (nI ls.length) (nI x.length) mk ch line made now row wt word := rfl
    rw [e0, e1]
    have hxd := ldA_dn hI _ r x (dn_take hv) hr hrl hx
    unfold F_X3_firstWrong_5 F_X11_check_56
    by_cases c : k = ls.length
    · have hc : nI ls.length ≤ nI k := by rw [c]; exact nI_le (Nat.le_refl _) (by omega)
      rw [if_pos hc, if_pos hc]
      by_cases c2 : nI n ≤ nI at0
      · rw [if_pos c2, if_pos c2]; exact ⟨_, _, _, _, _, _, rfl, rfl⟩
      · rw [if_neg c2, if_neg c2]; exact ⟨_, _, _, _, _, _, rfl, rfl⟩
    · have hk2 : k < ls.length := by omega
      have hlk := dn_at hv hk2
      obtain ⟨x2, hx2⟩ := stp_some hg (k + 1)
      have hs := stp_s (now := now) (ls := ls) (r := r) k hk2
      rw [hx, hx2] at hs
      have hs' : ld1 now (ls.getD k 0) x = some x2 := hs.symm
      obtain ⟨q1, q2⟩ := ld1_some hs'
      have hx2d := ldA_dn hI _ r x2 (dn_take hv) hr hrl hx2
      have hx2g := dn_dg hx2d.1 hI.2.1
      obtain ⟨made', word', g1, g2⟩ := go_ap hI hlk hxd.1 hxd.2 hw mk ch made
      rw [← q1] at g1 g2
      rw [if_pos q2, if_pos q2] at g1
      have hwk := (hp k hk2 x x2 hx hx2).1
      have hc : ¬ nI ls.length ≤ nI k := nI_ge hk2 (by omega)
      rw [if_neg hc, if_neg hc, ck_ok rfl (show k < 36 by omega) (by decide), ck_ok rfl (show k < 36 by omega) (by decide), ck_ok rfl (show k < 36 by omega) (by decide), nI_clamp (n := k) (by omega), hwk, c_told hx2g q2 wt hn ha, b1_s, hls k hk2, g1, w_size hx2g q2, b1_s]
      have e6 : ∀ {α : Type} (f : Int32 → Int32 → Int32 → Int32 → (Nat → Int32) → (Nat → Int32) → Option α) (a b c d : Int32) (e g : Nat → Int32), bn6_ (some (a, b, c, d, e, g)) f = f a b c d e g := fun _ _ _ _ _ _ _ => rfl
      rw [e6, if_neg (show ¬ (1 : Int32) = 0 by decide), m_told q2 wt (g2 q2) hn ha, b1_s]
      cases ht : tld wt n at0 x2 with
      | false =>
        rw [if_pos (by decide), if_pos (by decide)]
        exact ⟨_, _, _, _, _, _, rfl, rfl⟩
      | true =>
        have hlt : at0 + x2.length < n := by
          unfold tld at ht
          simp only [Bool.and_eq_true, decide_eq_true_eq] at ht
          exact ht.1
        rw [if_neg (by decide), if_neg (by decide), show (1 : Int32) + nI x2.length = nI (1 + x2.length) from nI_add 1 _, lt_e, lt_e, lt_e, lt_e, nI_add, nI_1]
        exact ih (k + 1) (at0 + (1 + x2.length)) x2 _ _ made' word' (by omega) (by omega) (by omega) hx2 (g2 q2)
end CHK
set_option maxHeartbeats 1000000 in
theorem sim_check : Sim_check Rel := by
  intro wc ak fi kwd kou kga klc klt klw kLc kLf kLh kLi kLk kLK kLN kLY kMc kMf kSc kSr kSk kSn kSy kTc kTo kTO kTp wd ou ga lc lt lw Lc Lf Lh Li Lk LK LN LY Mc Mf Sc Sr Sk Sn Sy Tc To TO Tp wt f_path_count f_path_touched f_path_word f_row_count f_row_law tch isK wts mfi now mkept mwt m_many m_size m_makes m_changes m_line m_made m_row m_word z0 hR
  obtain ⟨hW, hK, hF, hS⟩ := hR
  subst hF
  have hS0 := hS
  obtain ⟨ns, nl, nt, nm, hC, hSn, hL, hT, hM, ⟨r, hw⟩, hO, hLt, hG⟩ := hS
  obtain ⟨n0, n1, n2, n3, rfl, rfl, rfl, rfl, bb0, bb1, bb2, bb3⟩ := hC
  obtain ⟨rfl, rfl, w, w1, w2⟩ := hW
  subst w2
  rcases ix_c z0 (n := nt) (by omega) with h | ⟨t, ht, rfl⟩
  · iterate 19 apply Exists.intro
    refine ⟨?e1, ?e2, ⟨?e7, rfl, 0, Nat.zero_le _, ?e8⟩, hK, ?e5, ?e3⟩
    case e1 => unfold F_X10_check F_X10_check_0; rw [lt_e, has7, has_no h]; rfl
    case e2 => unfold F_X11_check F_X11_check_0; rw [lt_e, is2_no n2 (by omega) h]; rfl
    case e7 => rfl
    case e8 => rfl
    case e5 => rfl
    case e3 => exact hS0
  · obtain ⟨r1, r2, r3, r4, r5⟩ := hw
    have hlen := rows_len hT.1 t ht
    have hv := rows_dn hT.1 t ht
    obtain ⟨tA, wA, rowc, tc, k1, k2⟩ := c_walk hL.1 hL.2.1 hT.1 hT.2 ht r1 (show r.length ≤ 16 by omega) f_path_count f_path_touched f_path_word f_row_count f_row_law tch
    rw [← r3] at k1
    obtain ⟨line', row', d1, d2⟩ := m_findLaws hT.1 ht m_many m_line m_row
    obtain ⟨wA1, t1, t2⟩ := m_takeWord (show r.length ≤ 16 by omega) r4 r5 m_size m_word
    obtain ⟨sz, mk, ch, made', word', g1, g2⟩ := m_goAll hL.1 d2 (by omega) hv m_makes m_changes m_made wA1 r1 (show r.length ≤ 16 by omega) t2
    cases hg : ldA now (rows now t) r with
    | none =>
      rw [hg] at k1 g1
      iterate 19 apply Exists.intro
      refine ⟨?e1, ?e2, ⟨?e7, rfl, 0, Nat.zero_le _, ?e8⟩, hK, ?e5, ?e3⟩
      case e1 => unfold F_X10_check F_X10_check_0; rw [lt_e, has7, has_yes (by omega) ht, b1_s, if_neg (by decide), k1]; rfl
      case e2 => unfold F_X11_check F_X11_check_0; rw [lt_e, is2_yes n2 (by omega) ht, b1_s, if_neg (by decide), d1]; exact (show bn2_ (F_X11_takeWord m_size now m_word) _ = _ by rw [t1]; exact (show bn6_ (F_X11_goAll (nI (rows now t).length) (nI r.length) m_makes m_changes m_made now row' wA1) _ = _ by rw [g1]; rfl))
      case e7 => rfl
      case e8 => rfl
      case e5 => rfl
      case e3 => exact hS0
    | some g =>
      rw [hg] at k1 g1
      have hgd := ldA_dn hL.1 _ r g hv r1 (by omega) hg
      have hgg := dn_dg hgd.1 bb0
      obtain ⟨wA2, t3, t4⟩ := m_takeWord (show r.length ≤ 16 by omega) r4 r5 sz word'
      obtain ⟨v, sz', mk', ch', made2, word2, f1, f2⟩ := chk_loop (line := line') w1 wt hL.1 d2 (by omega) hv r1 (show r.length ≤ 16 by omega) hg k2 0 fi fu_ 0 0 r mk ch made' wA2 (Nat.zero_le _) (by unfold fu_; omega) (Nat.zero_le _) rfl t4
      iterate 19 apply Exists.intro
      refine ⟨?e1, ?e2, ⟨?e7, rfl, 0, Nat.zero_le _, ?e8⟩, hK, ?e5, ?e3⟩
      case e1 =>
        unfold F_X10_check F_X10_check_0
        rw [lt_e, has7, has_yes (by omega) ht, b1_s, if_neg (by decide), k1]
        exact (show (if wl g = 0 then _ else bn1_ (F_X3_firstWrong_5L (nI w) wt (nI (rows now t).length) wA fu_ (nI 0) (nI 0)) _) = _ by rw [if_neg (wl_ne0 hgg (by omega)), f1]; rfl)
      case e2 =>
        unfold F_X11_check F_X11_check_0
        rw [lt_e, is2_yes n2 (by omega) ht, b1_s, if_neg (by decide), d1]
        exact (show bn2_ (F_X11_takeWord m_size now m_word) _ = _ by
          rw [t1]
          exact (show bn6_ (F_X11_goAll (nI (rows now t).length) (nI r.length) m_makes m_changes m_made now row' wA1) _ = _ by
            rw [g1]
            exact (show bn2_ (F_X11_takeWord sz now word') _ = _ by
              rw [t3]
              exact f2)))
      case e7 => rfl
      case e8 => rfl
      case e5 => rfl
      case e3 => exact hS0
