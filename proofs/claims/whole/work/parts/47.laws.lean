/-! what fits a set, as the class holds it -/
def fsK (K Y N : Int32) (Sk Sy Sn : Nat → Int32) (q : Nat) : Bool :=
  if 0 ≤ K then (decide (q < 8) && (isofb (Sk q) K && (decide (Sy q &&& Y = Y) && decide (Sn q &&& N = N)))) else (decide (K = -2) || decide (q = 8))
theorem fsb_K (now : Nat → Int32) (l w q : Nat) : fsb now l w q = fsK (now (96 + 9 * l + 3 * w)) (now (96 + 9 * l + 3 * w + 1)) (now (96 + 9 * l + 3 * w + 2)) (fun q => now (16 + q)) (fun q => now (24 + q)) (fun q => now (32 + q)) q := rfl
theorem fsK_c {K Y N : Int32} {Sk Sy Sn Sk' Sy' Sn' : Nat → Int32} {q : Nat} (h : q < 8 → Sk' q = Sk q ∧ Sy' q = Sy q ∧ Sn' q = Sn q) : fsK K Y N Sk' Sy' Sn' q = fsK K Y N Sk Sy Sn q := by
  unfold fsK
  by_cases c : q < 8
  · obtain ⟨h1, h2, h3⟩ := h c
    rw [h1, h2, h3]
  · simp [c]
theorem c_fits {s : Nat} (hs : s < 8) (K Y N : Int32) (Sk Sn Sy : Nat → Int32) : F_X5_fits (nI s) K Y N Sk Sn Sy = some (b2 (isofb (Sk s) K && (decide (Sy s &&& Y = Y) && decide (Sn s &&& N = N)))) := by
  unfold F_X5_fits F_X5_fits_0
  rw [c_isOf hs, b1_s]
  cases h : isofb (Sk s) K with
  | false => rfl
  | true =>
    rw [if_neg (by decide), ck_ok rfl hs (by decide), ck_ok rfl hs (by decide), nI_clamp (n := s) (by omega)]
    by_cases c1 : Sy s &&& Y = Y
    · rw [if_pos c1]
      by_cases c2 : Sn s &&& N = N
      · rw [if_pos c2]; simp [c1, c2, b2]
      · rw [if_neg c2]; simp [c2, b2]
    · rw [if_neg c1]; simp [c1, b2]
theorem sh1 {i : Nat} (hi : i < 31) : (1 : Int32) <<< (nI i &&& 31) = nI (2 ^ i) := by
  have := pk_shlN (n := 1) (nI i &&& 31) i (sh_amt i (by omega)) (by rw [Nat.one_mul]; exact Nat.pow_lt_pow_right (by decide) (by omega))
  rw [Nat.one_mul] at this
  exact this
theorem tb_lt {b i q : Nat} (h : b < 2 ^ i) (hq : i ≤ q) : b.testBit q = false := Nat.testBit_lt_two_pow (Nat.lt_of_lt_of_le h (Nat.pow_le_pow_right (by decide) hq))
theorem c_fbL {p ns : Nat} (hp : p < 48) (hns : ns ≤ 8) (Sk Sn Sy LK LN LY : Nat → Int32) (fuel : Nat) : ∀ (i b : Nat), i ≤ ns → ns - i < fuel → b < 2 ^ i → (∀ q, q < i → b.testBit q = (isofb (Sk q) (LK p) && (decide (Sy q &&& LY p = LY p) && decide (Sn q &&& LN p = LN p)))) →
    ∃ b', b' < 2 ^ ns ∧ F_X1_fittingBits_34L (nI p) (nI ns) Sk Sn Sy LK LN LY fuel (nI b) (nI i) = some (nI b') ∧ ∀ q, q < ns → b'.testBit q = (isofb (Sk q) (LK p) && (decide (Sy q &&& LY p = LY p) && decide (Sn q &&& LN p = LN p))) := by
  induction fuel with
  | zero => intro i b _ h; exact absurd h (Nat.not_lt_zero _)
  | succ fuel ih =>
    intro i b hi hf hb hq
    have e0 : F_X1_fittingBits_34L (nI p) (nI ns) Sk Sn Sy LK LN LY (fuel + 1) (nI b) (nI i) = F_X1_fittingBits_34 (F_X1_fittingBits_34L (nI p) (nI ns) Sk Sn Sy LK LN LY fuel) (nI p) (nI b) (nI i) (nI ns) Sk Sn Sy LK LN LY := rfl
    rw [e0]
    unfold F_X1_fittingBits_34 F_X1_fittingBits_77
    by_cases c : i = ns
    · subst c
      rw [if_pos (nI_le (Nat.le_refl _) (by omega))]
      exact ⟨b, hb, rfl, hq⟩
    · rw [if_neg (nI_ge (by omega) (by omega)), ck_ok rfl hp (by decide), ck_ok rfl hp (by decide), ck_ok rfl hp (by decide), nI_clamp (n := p) (by omega), c_fits (by omega), b1_s]
      have hp2 : 2 ^ (i + 1) = 2 ^ i + 2 ^ i := by rw [Nat.pow_succ]; omega
      cases hfit : (isofb (Sk i) (LK p) && (decide (Sy i &&& LY p = LY p) && decide (Sn i &&& LN p = LN p))) with
      | false =>
        rw [if_pos (by decide), lt_e, nI_1]
        refine ih (i + 1) b (by omega) (by omega) (by omega) (fun q hq2 => ?_)
        by_cases cq : q = i
        · subst cq; rw [hfit]; exact tb_lt hb (Nat.le_refl _)
        · exact hq q (by omega)
      | true =>
        rw [if_neg (by decide), lt_e, lt_e, nI_1, sh1 (by omega), fa_or]
        refine ih (i + 1) (b ||| 2 ^ i) (by omega) (by omega) (Nat.or_lt_two_pow (by omega) (Nat.pow_lt_pow_right (by decide) (by omega))) (fun q hq2 => ?_)
        rw [fb_bit_set]
        by_cases cq : q = i
        · subst cq; rw [hfit]; simp
        · rw [hq q (by omega)]; simp [cq]
theorem c_fitK {p ns : Nat} (hp : p < 48) (hns : ns ≤ 8) (Sk Sn Sy LK LN LY : Nat → Int32) (hK : LK p = -2 ∨ LK p = -1 ∨ 0 ≤ LK p) : ∃ b, b < 512 ∧ F_X1_fittingBits (nI p) (nI ns) Sk Sn Sy LK LN LY = some (nI b) ∧ ∀ q, q < ns ∨ q = 8 → b.testBit q = fsK (LK p) (LY p) (LN p) Sk Sy Sn q := by
  have t511 : ∀ q, q < 9 → (511 : Nat).testBit q = true := by decide
  have t256 : ∀ q, q < 9 → (256 : Nat).testBit q = decide (q = 8) := by decide
  unfold F_X1_fittingBits F_X1_fittingBits_0
  rw [ck_ok rfl hp (by decide), ck_ok rfl hp (by decide), nI_clamp (n := p) (by omega)]
  unfold fsK
  by_cases c1 : LK p = -2
  · rw [if_pos c1, c1]
    refine ⟨511, by decide, rfl, fun q hq => ?_⟩
    rw [t511 q (by omega), if_neg (by decide)]
    simp
  · rw [if_neg c1]
    by_cases c2 : LK p = -1
    · rw [if_pos c2, c2]
      refine ⟨256, by decide, rfl, fun q hq => ?_⟩
      rw [t256 q (by omega), if_neg (by decide)]
      simp
    · have c3 : 0 ≤ LK p := (hK.resolve_left c1).resolve_left c2
      rw [if_neg c2]
      obtain ⟨b', h1, h2, h3⟩ := c_fbL hp hns Sk Sn Sy LK LN LY fu_ 0 0 (Nat.zero_le _) (by unfold fu_; omega) (by decide) (fun q hq => absurd hq (Nat.not_lt_zero q))
      have h4 : 2 ^ ns ≤ 2 ^ 8 := Nat.pow_le_pow_right (by decide) hns
      refine ⟨b', by omega, h2, fun q hq => ?_⟩
      rw [if_pos c3]
      by_cases cq : q < ns
      · rw [h3 q cq]
        simp [show q < 8 by omega]
      · rw [tb_lt h1 (by omega)]
        simp [show ¬ q < 8 by omega]
theorem c_define {p ns : Nat} (hp : p < 48) (hns : ns ≤ 8) (K Y N : Int32) (hK : K = -2 ∨ K = -1 ∨ 0 ≤ K) (Sk Sn Sy Lf LK LN LY : Nat → Int32) : ∃ b, b < 512 ∧ F_X1_define (nI p) K Y N (nI ns) Sk Sn Sy Lf LK LN LY = some (upd Lf p (nI b), upd LK p K, upd LN p N, upd LY p Y) ∧ ∀ q, q < ns ∨ q = 8 → b.testBit q = fsK K Y N Sk Sy Sn q := by
  obtain ⟨b, h1, h2, h3⟩ := c_fitK hp hns Sk Sn Sy (upd LK p K) (upd LN p N) (upd LY p Y) (by rw [pk_us]; exact hK)
  rw [pk_us, pk_us, pk_us] at h3
  refine ⟨b, h1, ?_, h3⟩
  unfold F_X1_define F_X1_define_0
  rw [ck_ok rfl hp (by decide), lt_e, ck_ok rfl hp (by decide), lt_e, ck_ok rfl hp (by decide), lt_e, nI_clamp (n := p) (by omega), h2, b1_s, ck_ok rfl hp (by decide), lt_e]
theorem SN_K {now : Nat → Int32} {ns : Nat} {Sk Sn Sy : Nat → Int32} {Sr : Int32} (h : SN now ns Sk Sn Sr Sy) {K Y N : Int32} {q : Nat} (hq : q < ns ∨ q = 8) : fsK K Y N Sk Sy Sn q = fsK K Y N (fun q => now (16 + q)) (fun q => now (24 + q)) (fun q => now (32 + q)) q := by
  apply fsK_c
  intro h8
  obtain ⟨k, y, n, p1, p2, p3, p4, p5, p6, p7, p8, p9, p10, p11⟩ := h.2 q (by omega)
  exact ⟨p8.trans p5.symm, p9.trans p6.symm, p10.trans p7.symm⟩
theorem c_fitAllL {now : Nat → Int32} {ns nl : Nat} {Sk Sn Sy LK LN LY : Nat → Int32} {Sr : Int32} (hns : ns ≤ 8) (hnl : nl ≤ 16) (hS : SN now ns Sk Sn Sr Sy) (hL : LSt now nl LK LN LY) (fuel : Nat) :
    ∀ (i : Nat) (Lf : Nat → Int32), i ≤ 3 * nl → 3 * nl - i < fuel → (∀ l w, w < 3 → 3 * l + w < i → ∃ b, b < 512 ∧ Lf (3 * l + w) = nI b ∧ ∀ q, q < ns ∨ q = 8 → b.testBit q = fsb now l w q) → ∃ Lf', F_X1_fitAll_2L (nI ns) Sk Sn Sy (nI nl) LK LN LY fuel (nI i) Lf = some Lf' ∧ ∀ l w, w < 3 → 3 * l + w < 3 * nl → ∃ b, b < 512 ∧ Lf' (3 * l + w) = nI b ∧ ∀ q, q < ns ∨ q = 8 → b.testBit q = fsb now l w q := by
  induction fuel with
  | zero => intro i Lf _ h; exact absurd h (Nat.not_lt_zero _)
  | succ fuel ih =>
    intro i Lf hi hf hq
    have e0 : F_X1_fitAll_2L (nI ns) Sk Sn Sy (nI nl) LK LN LY (fuel + 1) (nI i) Lf = F_X1_fitAll_2 (F_X1_fitAll_2L (nI ns) Sk Sn Sy (nI nl) LK LN LY fuel) (nI i) (nI ns) Sk Sn Sy (nI nl) Lf LK LN LY := rfl
    rw [e0]
    unfold F_X1_fitAll_2
    have e3 : nI nl * 3 = nI (3 * nl) := by rw [show (3 : Int32) = nI 3 from rfl, pk_mul, Nat.mul_comm]
    rw [e3]
    by_cases c : i = 3 * nl
    · rw [if_pos (by rw [c]; exact nI_le (Nat.le_refl _) (by omega))]
      subst c
      exact ⟨Lf, rfl, hq⟩
    · obtain ⟨l, w, hw, rfl⟩ : ∃ l w, w < 3 ∧ i = 3 * l + w := ⟨i / 3, i % 3, Nat.mod_lt _ (by decide), by omega⟩
      obtain ⟨a1, a2, a3, a4⟩ := hL l (by omega) w hw
      obtain ⟨b, q1, q2, q3⟩ := c_fitK (p := 3 * l + w) (by omega) hns Sk Sn Sy LK LN LY (by rw [a1]; exact a4)
      rw [if_neg (nI_ge (by omega) (by omega)), q2, b1_s, ck_ok rfl (show 3 * l + w < 48 by omega) (by decide), lt_e, lt_e, nI_1, nI_clamp (n := 3 * l + w) (by omega)]
      refine ih (3 * l + w + 1) _ (by omega) (by omega) (fun l2 w2 hw2 h2 => ?_)
      by_cases cc : 3 * l2 + w2 = 3 * l + w
      · obtain rfl : l2 = l := by omega
        obtain rfl : w2 = w := by omega
        refine ⟨b, q1, pk_us, fun q hq3 => ?_⟩
        rw [q3 q hq3, a1, a2, a3, SN_K hS hq3]
        rfl
      · rw [pk_un cc]
        exact hq l2 w2 hw2 (by omega)
theorem c_fitAll {now : Nat → Int32} {ns nl : Nat} {Sk Sn Sy LK LN LY : Nat → Int32} {Sr : Int32} (hns : ns ≤ 8) (hnl : nl ≤ 16) (hS : SN now ns Sk Sn Sr Sy) (hL : LSt now nl LK LN LY) (Lf : Nat → Int32) : ∃ Lf', F_X1_fitAll (nI ns) Sk Sn Sy (nI nl) Lf LK LN LY = some Lf' ∧ ∀ l, l < nl → ∀ w, w < 3 → ∃ b, b < 512 ∧ Lf' (3 * l + w) = nI b ∧ ∀ q, q < ns ∨ q = 8 → b.testBit q = fsb now l w q := by
  obtain ⟨Lf', h1, h2⟩ := c_fitAllL hns hnl hS hL fu_ 0 Lf (Nat.zero_le _) (by unfold fu_; omega) (fun l w _ h => absurd h (Nat.not_lt_zero _))
  exact ⟨Lf', h1, fun l hl w hw => h2 l w hw (by omega)⟩
theorem dn_up {n m : Nat} {r : List Nat} (h : dn n r) (hm : n ≤ m) : dn m r := fun s hs => Nat.lt_of_lt_of_le (h s hs) hm
set_option maxHeartbeats 1000000 in
theorem sim_becomes : Sim_becomes Rel := by
  intro wc ak fi kwd kou kga klc klt klw kLc kLf kLh kLi kLk kLK kLN kLY kMc kMf kSc kSr kSk kSn kSy kTc kTo kTO kTp wd ou ga lc lt lw Lc Lf Lh Li Lk LK LN LY Mc Mf Sc Sr Sk Sn Sy Tc To TO Tp wt isK wts mfi now mkept mwt z0 z1 z2 hR
  obtain ⟨hW, hK, hF, hS⟩ := hR
  subst hF
  have hS0 := hS
  obtain ⟨ns, nl, nt, nm, hC, hSn, hL, hT, hM, ⟨r, hw⟩, hO, hLt, hG⟩ := hS
  obtain ⟨n0, n1, n2, n3, rfl, rfl, rfl, rfl, bb0, bb1, bb2, bb3⟩ := hC
  have e2i : F_X1_isHow z1 = F_X11_in z1 0 2 := rfl
  rcases ix_c z0 (n := nl) (by omega) with h | ⟨l, hl, rfl⟩
  · iterate 6 apply Exists.intro
    refine ⟨?e1, ?e2, hW, hK, ?e5, ?e3⟩
    case e1 => unfold F_X10_becomes F_X10_becomes_0 F_X10_becomes_21; rw [has1, has_no h]; rfl
    case e2 => unfold F_X11_becomes F_X11_becomes_0 F_X11_becomes_30; rw [is1_no n1 (by omega) h]; rfl
    case e5 => rfl
    case e3 => exact hS0
  · rcases in_c z1 0 2 with ⟨h1, h2⟩ | ⟨h1, h2, h3⟩
    · iterate 6 apply Exists.intro
      refine ⟨?e1, ?e2, hW, hK, ?e5, ?e3⟩
      case e1 => unfold F_X10_becomes F_X10_becomes_0 F_X10_becomes_21; rw [has1, has_yes (by omega) hl, b1_s, if_neg (by decide), e2i, h1]; rfl
      case e2 => unfold F_X11_becomes F_X11_becomes_0 F_X11_becomes_30; rw [is1_yes n1 (by omega) hl, b1_s, if_neg (by decide), h1]; rfl
      case e5 => rfl
      case e3 => exact hS0
    · obtain ⟨hw2, hh2, rfl⟩ := in_n (b := 2) (m := 2) rfl (by decide) h2 h3
      have e64 : (64 : Int32) + nI l = nI (64 + l) := nI_add 64 l
      have e80 : (80 : Int32) + nI l = nI (80 + l) := nI_add 80 l
      have core : ∀ (x : Nat) (z : Int32), z = nI x → x < 8 → (hw2 = 1 ∨ x < ns) → StR wd ou ga lc lt lw (nI nl) Lf (upd Lh l (nI hw2)) (upd Li l z) Lk LK LN LY (nI nm) Mf (nI ns) Sk Sn Sr Sy (nI nt) To TO Tp (upd (upd now (64 + l) (nI hw2)) (80 + l) z) := by
        intro x z hz x8 hx
        have hn : ∀ i, i ≠ 64 + l ∧ i ≠ 80 + l → upd (upd now (64 + l) (nI hw2)) (80 + l) z i = now i := fun i hi => by rw [pk_un hi.2, pk_un hi.1]
        have hx1 : upd (upd now (64 + l) (nI hw2)) (80 + l) z (64 + l) = nI hw2 := by rw [pk_un (by omega), pk_us]
        have hx2 : upd (upd now (64 + l) (nI hw2)) (80 + l) z (80 + l) = z := pk_us
        generalize upd (upd now (64 + l) (nI hw2)) (80 + l) z = now' at hn hx1 hx2 ⊢
        have hL' : LL now' ns nl Lf (upd Lh l (nI hw2)) (upd Li l z) Lk LK LN LY := by
          refine ⟨⟨hL.1.1, hL.1.2.1, fun k hk => ?_⟩, fun k hk => ?_, fun k hk w hw => ?_⟩
          · obtain ⟨kd, how, into, a1, a2, a3, a4, a5, a6, a7⟩ := hL.1.2.2 k hk
            rw [hn (48 + k) (by omega)]
            by_cases ck : k = l
            · subst ck
              exact ⟨kd, hw2, x, a1, a2, hx1, hh2, hx2.trans hz, x8, hx⟩
            · rw [hn (64 + k) (by omega), hn (80 + k) (by omega)]
              exact ⟨kd, how, into, a1, a2, a3, a4, a5, a6, a7⟩
          · obtain ⟨a1, a2, a3, a4⟩ := hL.2.1 k hk
            rw [hn (48 + k) (by omega)]
            have a4' : ∀ w, w < 3 → ∃ b, b < 512 ∧ Lf (3 * k + w) = nI b ∧ ∀ q, q < ns ∨ q = 8 → b.testBit q = fsb now' k w q := fun w hw => by
              obtain ⟨b, q1, q2, q3⟩ := a4 w hw
              exact ⟨b, q1, q2, fun q hq => by rw [q3 q hq, fsb_c (now := now) (now' := now') (fun i _ _ => hn i (by omega)) (fun i _ _ => hn i (by omega)) (by omega) hw]⟩
            by_cases ck : k = l
            · subst ck
              rw [pk_us, pk_us, hx1, hx2]
              exact ⟨a1, rfl, rfl, a4'⟩
            · rw [pk_un ck, pk_un ck, hn (64 + k) (by omega), hn (80 + k) (by omega)]
              exact ⟨a1, a2, a3, a4'⟩
          · rw [hn (96 + 9 * k + 3 * w) (by omega), hn (96 + 9 * k + 3 * w + 1) (by omega), hn (96 + 9 * k + 3 * w + 2) (by omega)]
            exact hL.2.2 k hk w hw
        exact ⟨ns, nl, nt, nm, ⟨(hn 0 (by omega)).trans n0, (hn 1 (by omega)).trans n1, (hn 2 (by omega)).trans n2, (hn 3 (by omega)).trans n3, rfl, rfl, rfl, rfl, bb0, bb1, bb2, bb3⟩, SN_c bb0 (fun i h4 h5 => hn i (by omega)) hSn, hL', TT_c (fun i h4 h5 => hn i (by omega)) hT, MN_c bb3 (fun i h4 h5 => hn i (by omega)) hM, ⟨r, WDr_c (hn 4 (by omega)) (fun i h4 h5 => hn i (by omega)) hw⟩, OC_c (hn 7 (by omega)) (fun i h4 h5 => hn i (by omega)) hO, LT_c (hn 5 (by omega)) (fun i h4 h5 => hn i (by omega)) hLt, GP_c (hn 6 (by omega)) hG⟩
      by_cases cd : hw2 = 1
      · subst cd
        refine ⟨0, fi, upd Lh l (nI 1), upd Li l 0, fi, upd (upd now (64 + l) (nI 1)) (80 + l) 0, ?e1, ?e2, hW, hK, rfl, core 0 0 rfl (by decide) (Or.inl rfl)⟩
        case e1 =>
          unfold F_X10_becomes F_X10_becomes_0 F_X10_becomes_37 F_X10_becomes_64 F_X10_becomes_98
          rw [has1, has_yes (by omega) hl, b1_s, if_neg (by decide), e2i, h1, b1_s, if_neg (by decide), if_pos (show nI 1 = 1 from rfl), if_neg (by decide), ck_ok rfl (show l < 16 by omega) (by decide), lt_e, if_neg (by decide), ck_ok rfl (show l < 16 by omega) (by decide), lt_e, nI_clamp (n := l) (by omega)]
        case e2 =>
          unfold F_X11_becomes F_X11_becomes_0 F_X11_becomes_36 F_X11_becomes_64
          rw [is1_yes n1 (by omega) hl, b1_s, if_neg (by decide), h1, b1_s, if_neg (by decide), if_pos (show nI 1 = 1 from rfl), e64, e80, ck_ok rfl (show 64 + l < 1600 by omega) (by decide), lt_e, if_pos (show nI 1 = 1 from rfl), ck_ok rfl (show 80 + l < 1600 by omega) (by decide), lt_e, nI_clamp (n := 64 + l) (by omega), nI_clamp (n := 80 + l) (by omega)]
      · have cd' : ¬ nI hw2 = 1 := fun q => cd ((e1_ (by omega)).mp q)
        rcases ix_c z2 (n := ns) (by omega) with h | ⟨s, hs, rfl⟩
        · iterate 6 apply Exists.intro
          refine ⟨?e1, ?e2, hW, hK, ?e5, ?e3⟩
          case e1 => unfold F_X10_becomes F_X10_becomes_0 F_X10_becomes_37; rw [has1, has_yes (by omega) hl, b1_s, if_neg (by decide), e2i, h1, b1_s, if_neg (by decide), if_neg cd', if_pos rfl, has_no h]; rfl
          case e2 => unfold F_X11_becomes F_X11_becomes_0 F_X11_becomes_30; rw [is1_yes n1 (by omega) hl, b1_s, if_neg (by decide), h1, b1_s, if_neg (by decide), if_neg cd', is0_no n0 (by omega) h]; rfl
          case e5 => rfl
          case e3 => exact hS0
        · refine ⟨0, fi, upd Lh l (nI hw2), upd Li l (nI s), fi, upd (upd now (64 + l) (nI hw2)) (80 + l) (nI s), ?e1, ?e2, hW, hK, rfl, core s (nI s) rfl (by omega) (Or.inr hs)⟩
          case e1 =>
            unfold F_X10_becomes F_X10_becomes_0 F_X10_becomes_37 F_X10_becomes_64 F_X10_becomes_98
            rw [has1, has_yes (by omega) hl, b1_s, if_neg (by decide), e2i, h1, b1_s, if_neg (by decide), if_neg cd', if_pos rfl, has_yes (by omega) hs, b1_s, if_neg (by decide), ck_ok rfl (show l < 16 by omega) (by decide), lt_e, if_pos rfl, ck_ok rfl (show l < 16 by omega) (by decide), lt_e, nI_clamp (n := l) (by omega)]
          case e2 =>
            unfold F_X11_becomes F_X11_becomes_0 F_X11_becomes_36 F_X11_becomes_64
            rw [is1_yes n1 (by omega) hl, b1_s, if_neg (by decide), h1, b1_s, if_neg (by decide), if_neg cd', is0_yes n0 (by omega) hs, b1_s, if_neg (by decide), e64, e80, ck_ok rfl (show 64 + l < 1600 by omega) (by decide), lt_e, if_neg cd', ck_ok rfl (show 80 + l < 1600 by omega) (by decide), lt_e, nI_clamp (n := 64 + l) (by omega), nI_clamp (n := 80 + l) (by omega)]
