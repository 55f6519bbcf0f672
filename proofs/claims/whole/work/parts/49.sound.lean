/-! set, sound -/
theorem in_00 (z : Int32) : F_X11_in z 0 0 = some (if z = 0 then 1 else 0) := by
  unfold F_X11_in F_X11_in_0
  by_cases c : z < 0
  · rw [if_pos c, if_neg (fun q => by rw [q] at c; exact absurd c (by decide))]
  · rw [if_neg c]
    by_cases c2 : 0 < z
    · rw [if_pos c2, if_neg (fun q => by rw [q] at c2; exact absurd c2 (by decide))]
    · rw [if_neg c2, if_pos]
      rcases fa_three z 0 with h | h | h
      · exact absurd h c
      · exact h
      · exact absurd h c2
theorem in_0 {x a b : Int32} (h : x < a ∨ b < x) : F_X11_in x a b = some 0 := by
  rcases in_c x a b with ⟨h1, -⟩ | ⟨-, h2, h3⟩
  · exact h1
  · exact absurd h (fun q => q.elim h2 h3)
theorem in_1 {x a b : Int32} (h1 : ¬ x < a) (h2 : ¬ b < x) : F_X11_in x a b = some 1 := by
  rcases in_c x a b with ⟨-, h3⟩ | ⟨h3, -⟩
  · exact absurd h3 (fun q => q.elim h1 h2)
  · exact h3
theorem set_52 {l w : Nat} (hl : l < 16) (hw : w < 3) (K Y N s0 fi : Int32) (now : Nat → Int32) (h1 : F_X11_in Y 0 s0 = some 1) (h2 : F_X11_in N 0 s0 = some 1) : F_X11_set_52 (nI l) (nI w) K Y N s0 fi now = some (0, fi, upd (upd (upd now (96 + 9 * l + 3 * w) K) (96 + 9 * l + 3 * w + 1) Y) (96 + 9 * l + 3 * w + 2) N) := by
  have e3 : ((96 : Int32) + (9 : Int32) * nI l) + (3 : Int32) * nI w = nI (96 + 9 * l + 3 * w) := by
    rw [show (96 : Int32) = nI 96 from rfl, show (9 : Int32) = nI 9 from rfl, show (3 : Int32) = nI 3 from rfl, pk_mul, pk_mul, nI_add, nI_add]
  have e4 : nI (96 + 9 * l + 3 * w) + 2 = nI (96 + 9 * l + 3 * w + 2) := nI_add _ 2
  unfold F_X11_set_52
  rw [h1, b1_s, if_neg (by decide), h2, b1_s, if_neg (by decide), e3, e4, nI_1, ck_ok rfl (show 96 + 9 * l + 3 * w < 1600 by omega) (by decide), lt_e, ck_ok rfl (show 96 + 9 * l + 3 * w + 1 < 1600 by omega) (by decide), lt_e, ck_ok rfl (show 96 + 9 * l + 3 * w + 2 < 1600 by omega) (by decide), lt_e, nI_clamp (n := 96 + 9 * l + 3 * w) (by omega), nI_clamp (n := 96 + 9 * l + 3 * w + 1) (by omega), nI_clamp (n := 96 + 9 * l + 3 * w + 2) (by omega)]
def stT (l z1 z2 z3 z4 fi : Int32) (now : Nat → Int32) : Option (Int32 × Int32 × (Nat → Int32)) := bn1_ (F_X11_in z1 0 2) (fun y23 => if y23 = 0 then F_X11_set_35 fi now else (if z1 = 0 then F_X11_set_28 l z1 z2 z3 z4 z2 0 fi now else F_X11_set_28 l z1 z2 z3 z4 z2 (-2) fi now))
theorem set_eq (z1 z2 z3 z4 : Int32) : (F_X1_isSet z1 z2 z3 z4 = some 0 ∧ ∀ l fi now, stT l z1 z2 z3 z4 fi now = some (-1, fi + 1, now)) ∨
    (F_X1_isSet z1 z2 z3 z4 = some 1 ∧ ∃ w, w < 3 ∧ z1 = nI w ∧ (z2 = -2 ∨ z2 = -1 ∨ 0 ≤ z2) ∧ ∀ l fi now, l < 16 → stT (nI l) z1 z2 z3 z4 fi now = some (0, fi, upd (upd (upd now (96 + 9 * l + 3 * w) z2) (96 + 9 * l + 3 * w + 1) z3) (96 + 9 * l + 3 * w + 2) z4)) := by
  have ek : ∀ x, F_X5_isKind x = F_X11_in x 0 4 := fun _ => rfl
  have em : ∀ x, F_X5_isMarks x = F_X11_in x 0 255 := fun _ => rfl
  unfold stT
  rcases in_c z1 0 2 with ⟨h1, h2⟩ | ⟨h1, h2, h3⟩
  · refine Or.inl ⟨?_, fun l fi now => by rw [h1]; rfl⟩
    unfold F_X1_isSet F_X1_isSet_0
    by_cases c : z1 < 0
    · rw [if_pos c]
    · rw [if_neg c, if_neg (fa_of_lt (h2.resolve_left c)).2.1]
  · obtain ⟨w, hw, rfl⟩ := in_n (b := 2) (m := 2) rfl (by decide) h2 h3
    rw [h1]
    by_cases cz : z2 = -1 ∨ z2 = -2
    · have eS : F_X1_isSet (nI w) z2 z3 z4 = F_X1_isSet_22 (nI w) z3 z4 := by
        unfold F_X1_isSet F_X1_isSet_0
        rw [if_neg h2, if_pos (fa_of_nlt h3)]
        rcases cz with c | c
        · rw [if_pos c]
        · rw [if_neg (by rw [c]; decide), if_pos c]
      rw [eS]
      unfold F_X1_isSet_22
      have hneg : z2 < 0 := by rcases cz with c | c <;> (rw [c]; decide)
      by_cases c0 : w = 0
      · subst c0
        refine Or.inl ⟨if_pos rfl, fun l fi now => ?_⟩
        rw [b1_s, if_neg (by decide), if_pos (show nI 0 = 0 from rfl)]
        unfold F_X11_set_28
        rw [in_0 (Or.inl hneg)]; rfl
      · have c0' : ¬ nI w = 0 := fun q => c0 ((e0_ (by omega)).mp q)
        have hin : F_X11_in z2 (-2) 4 = some 1 := by
          rcases cz with c | c <;> (rw [c]; rfl)
        have ref : ∀ l fi now, bn1_ (some 1) (fun y23 => if y23 = (0 : Int32) then F_X11_set_35 fi now else (if nI w = 0 then F_X11_set_28 l (nI w) z2 z3 z4 z2 0 fi now else F_X11_set_28 l (nI w) z2 z3 z4 z2 (-2) fi now)) = F_X11_set_52 l (nI w) z2 z3 z4 0 fi now := fun l fi now => by
          rw [b1_s, if_neg (by decide), if_neg c0']
          unfold F_X11_set_28
          rw [hin, b1_s, if_neg (by decide), if_neg (by intro h; exact (fa_of_lt hneg).2.1 h)]
        rw [if_neg c0']
        by_cases c3 : z3 = 0
        · rw [if_pos c3]
          by_cases c4 : z4 = 0
          · rw [if_pos c4]
            refine Or.inr ⟨rfl, w, by omega, rfl, cz.elim (fun h => Or.inr (Or.inl h)) Or.inl, fun l fi now hl => ?_⟩
            rw [ref]
            exact set_52 hl (by omega) _ _ _ _ _ _ (by rw [in_00, if_pos c3]) (by rw [in_00, if_pos c4])
          · rw [if_neg c4]
            refine Or.inl ⟨rfl, fun l fi now => ?_⟩
            rw [ref]
            unfold F_X11_set_52
            rw [in_00, if_pos c3, b1_s, if_neg (by decide), in_00, if_neg c4]; rfl
        · rw [if_neg c3]
          refine Or.inl ⟨rfl, fun l fi now => ?_⟩
          rw [ref]
          unfold F_X11_set_52
          rw [in_00, if_neg c3]; rfl
    · have cz1 : ¬ z2 = -1 := fun h => cz (Or.inl h)
      have cz2 : ¬ z2 = -2 := fun h => cz (Or.inr h)
      have eS : F_X1_isSet (nI w) z2 z3 z4 = bn1_ (F_X11_in z2 0 4) (fun y8 => if y8 = 0 then some 0 else bn1_ (F_X11_in z3 0 255) (fun y11 => if y11 = 0 then some 0 else bn1_ (F_X11_in z4 0 255) (fun y14 => if y14 = 0 then some 0 else some 1))) := by
        unfold F_X1_isSet F_X1_isSet_0
        rw [if_neg h2, if_pos (fa_of_nlt h3), if_neg cz1, if_neg cz2]
        rfl
      rw [eS]
      rcases in_c z2 0 4 with ⟨g1, g2⟩ | ⟨g1, g2, g3⟩
      · rw [g1]
        refine Or.inl ⟨rfl, fun l fi now => ?_⟩
        rw [b1_s, if_neg (by decide)]
        have hin : F_X11_in z2 (-2) 4 = some 0 := by
          refine in_0 ?_
          rcases g2 with h | h
          · left
            rw [fa_lt] at h ⊢
            rw [fa_eq] at cz1 cz2
            have q1 : (-2 : Int32).toInt = -2 := by decide
            have q2 : (-1 : Int32).toInt = -1 := by decide
            have q3 : (0 : Int32).toInt = 0 := by decide
            omega
          · exact Or.inr h
        by_cases c0 : nI w = 0
        · rw [if_pos c0]; unfold F_X11_set_28; rw [g1]; rfl
        · rw [if_neg c0]; unfold F_X11_set_28; rw [hin]; rfl
      · rw [g1, b1_s, if_neg (by decide)]
        have hin : F_X11_in z2 (-2) 4 = some 1 := in_1 (fun q => g2 (fa_trans q (by decide))) g3
        have ref : ∀ l fi now, bn1_ (some 1) (fun y23 => if y23 = (0 : Int32) then F_X11_set_35 fi now else (if nI w = 0 then F_X11_set_28 l (nI w) z2 z3 z4 z2 0 fi now else F_X11_set_28 l (nI w) z2 z3 z4 z2 (-2) fi now)) = F_X11_set_52 l (nI w) z2 z3 z4 255 fi now := fun l fi now => by
          rw [b1_s, if_neg (by decide)]
          by_cases c0 : nI w = 0
          · rw [if_pos c0]; unfold F_X11_set_28; rw [g1, b1_s, if_neg (by decide), if_pos (fa_of_nlt g2)]
          · rw [if_neg c0]; unfold F_X11_set_28; rw [hin, b1_s, if_neg (by decide), if_pos (fa_of_nlt g2)]
        rcases in_c z3 0 255 with ⟨k1, k2⟩ | ⟨k1, k2, k3⟩
        · rw [k1]
          refine Or.inl ⟨rfl, fun l fi now => ?_⟩
          rw [ref]; unfold F_X11_set_52; rw [k1]; rfl
        · rw [k1, b1_s, if_neg (by decide)]
          rcases in_c z4 0 255 with ⟨m1, m2⟩ | ⟨m1, m2, m3⟩
          · rw [m1]
            refine Or.inl ⟨rfl, fun l fi now => ?_⟩
            rw [ref]; unfold F_X11_set_52; rw [k1, b1_s, if_neg (by decide), m1]; rfl
          · rw [m1, b1_s, if_neg (by decide)]
            refine Or.inr ⟨rfl, w, by omega, rfl, Or.inr (Or.inr (fa_of_nlt g2)), fun l fi now hl => ?_⟩
            rw [ref]
            exact set_52 hl (by omega) _ _ _ _ _ _ k1 m1
set_option maxHeartbeats 1000000 in
theorem sim_set : Sim_set Rel := by
  intro wc ak fi kwd kou kga klc klt klw kLc kLf kLh kLi kLk kLK kLN kLY kMc kMf kSc kSr kSk kSn kSy kTc kTo kTO kTp wd ou ga lc lt lw Lc Lf Lh Li Lk LK LN LY Mc Mf Sc Sr Sk Sn Sy Tc To TO Tp wt isK wts mfi now mkept mwt z0 z1 z2 z3 z4 hR
  obtain ⟨hW, hK, hF, hS⟩ := hR
  subst hF
  have hS0 := hS
  obtain ⟨ns, nl, nt, nm, hC, hSn, hL, hT, hM, ⟨r, hw⟩, hO, hLt, hG⟩ := hS
  obtain ⟨n0, n1, n2, n3, rfl, rfl, rfl, rfl, bb0, bb1, bb2, bb3⟩ := hC
  rcases ix_c z0 (n := nl) (by omega) with h | ⟨l, hl, rfl⟩
  · iterate 8 apply Exists.intro
    refine ⟨?e1, ?e2, hW, hK, ?e5, ?e3⟩
    case e1 => unfold F_X10_set F_X10_set_0 F_X10_set_26; rw [has1, has_no h]; rfl
    case e2 => unfold F_X11_set F_X11_set_0 F_X11_set_35; rw [is1_no n1 (by omega) h]; rfl
    case e5 => rfl
    case e3 => exact hS0
  · have ref : F_X11_set (nI l) z1 z2 z3 z4 fi now = stT (nI l) z1 z2 z3 z4 fi now := by
      unfold F_X11_set F_X11_set_0
      rw [is1_yes n1 (by omega) hl, b1_s, if_neg (by decide)]
      rfl
    rcases set_eq z1 z2 z3 z4 with ⟨k1, k2⟩ | ⟨k1, w, hw3, rfl, k2, k3⟩
    · iterate 8 apply Exists.intro
      refine ⟨?e1, ?e2, hW, hK, ?e5, ?e3⟩
      case e1 => unfold F_X10_set F_X10_set_0 F_X10_set_26; rw [has1, has_yes (by omega) hl, b1_s, if_neg (by decide), k1]; rfl
      case e2 => rw [ref]; exact k2 _ _ _
      case e5 => rfl
      case e3 => exact hS0
    · obtain ⟨b, q1, q2, q3⟩ := c_define (p := 3 * l + w) (by omega) bb0 z2 z3 z4 k2 Sk Sn Sy Lf LK LN LY
      have hn : ∀ i, (i < 96 + 9 * l + 3 * w ∨ 96 + 9 * l + 3 * w + 3 ≤ i) → upd (upd (upd now (96 + 9 * l + 3 * w) z2) (96 + 9 * l + 3 * w + 1) z3) (96 + 9 * l + 3 * w + 2) z4 i = now i := fun i hi => by rw [pk_un (by omega), pk_un (by omega), pk_un (by omega)]
      have y0 : upd (upd (upd now (96 + 9 * l + 3 * w) z2) (96 + 9 * l + 3 * w + 1) z3) (96 + 9 * l + 3 * w + 2) z4 (96 + 9 * l + 3 * w) = z2 := by rw [pk_un (by omega), pk_un (by omega), pk_us]
      have y1 : upd (upd (upd now (96 + 9 * l + 3 * w) z2) (96 + 9 * l + 3 * w + 1) z3) (96 + 9 * l + 3 * w + 2) z4 (96 + 9 * l + 3 * w + 1) = z3 := by rw [pk_un (by omega), pk_us]
      have y2 : upd (upd (upd now (96 + 9 * l + 3 * w) z2) (96 + 9 * l + 3 * w + 1) z3) (96 + 9 * l + 3 * w + 2) z4 (96 + 9 * l + 3 * w + 2) = z4 := pk_us
      have e2' : F_X11_set (nI l) (nI w) z2 z3 z4 fi now = some (0, fi, upd (upd (upd now (96 + 9 * l + 3 * w) z2) (96 + 9 * l + 3 * w + 1) z3) (96 + 9 * l + 3 * w + 2) z4) := by rw [ref]; exact k3 l fi now (by omega)
      generalize upd (upd (upd now (96 + 9 * l + 3 * w) z2) (96 + 9 * l + 3 * w + 1) z3) (96 + 9 * l + 3 * w + 2) z4 = now' at hn y0 y1 y2 e2'
      have hSn' : SN now' ns Sk Sn Sr Sy := SN_c bb0 (fun i h4 h5 => hn i (by omega)) hSn
      have hL' : LL now' ns nl (upd Lf (3 * l + w) (nI b)) Lh Li Lk (upd LK (3 * l + w) z2) (upd LN (3 * l + w) z4) (upd LY (3 * l + w) z3) := by
        refine ⟨LI_c (fun i h1 h2 => hn i (by omega)) hL.1, fun k hk => ?_, fun k hk v hv => ?_⟩
        · obtain ⟨a1, a2, a3, a4⟩ := hL.2.1 k hk
          rw [hn (48 + k) (by omega), hn (64 + k) (by omega), hn (80 + k) (by omega)]
          refine ⟨a1, a2, a3, fun v hv => ?_⟩
          by_cases ck : 3 * k + v = 3 * l + w
          · obtain rfl : k = l := by omega
            obtain rfl : v = w := by omega
            refine ⟨b, q1, by rw [pk_us], fun q hq => ?_⟩
            rw [q3 q hq, fsb_K, y0, y1, y2, SN_K hSn' hq]
          · obtain ⟨b', p1, p2, p3⟩ := a4 v hv
            refine ⟨b', p1, by rw [pk_un ck]; exact p2, fun q hq => ?_⟩
            rw [p3 q hq, fsb_K, fsb_K, hn (96 + 9 * k + 3 * v) (by omega), hn (96 + 9 * k + 3 * v + 1) (by omega), hn (96 + 9 * k + 3 * v + 2) (by omega)]
            apply fsK_c
            intro h8
            refine ⟨(hn _ (by omega)).symm, (hn _ (by omega)).symm, (hn _ (by omega)).symm⟩
        · by_cases ck : 3 * k + v = 3 * l + w
          · obtain rfl : k = l := by omega
            obtain rfl : v = w := by omega
            rw [pk_us, pk_us, pk_us, y0, y1, y2]
            exact ⟨rfl, rfl, rfl, k2⟩
          · rw [pk_un ck, pk_un ck, pk_un ck, hn (96 + 9 * k + 3 * v) (by omega), hn (96 + 9 * k + 3 * v + 1) (by omega), hn (96 + 9 * k + 3 * v + 2) (by omega)]
            exact hL.2.2 k hk v hv
      iterate 8 apply Exists.intro
      refine ⟨?e1, e2', hW, hK, ?e5, ns, nl, nt, nm, ⟨(hn 0 (by omega)).trans n0, (hn 1 (by omega)).trans n1, (hn 2 (by omega)).trans n2, (hn 3 (by omega)).trans n3, rfl, rfl, rfl, rfl, bb0, bb1, bb2, bb3⟩, hSn', hL', TT_c (fun i h4 h5 => hn i (by omega)) hT, MN_c bb3 (fun i h4 h5 => hn i (by omega)) hM, ⟨r, WDr_c (hn 4 (by omega)) (fun i h4 h5 => hn i (by omega)) hw⟩, OC_c (hn 7 (by omega)) (fun i h4 h5 => hn i (by omega)) hO, LT_c (hn 5 (by omega)) (fun i h4 h5 => hn i (by omega)) hLt, GP_c (hn 6 (by omega)) hG⟩
      case e1 =>
        unfold F_X10_set F_X10_set_0
        rw [has1, has_yes (by omega) hl, b1_s, if_neg (by decide), k1, b1_s, if_neg (by decide), set_pl l w, b1_s, q2]
        rfl
      case e5 => rfl
theorem snd_core {ns nl nt nm : Nat} {wd ou : Int64} {ga lc : Int32} {lt : Nat → Int32} {lw : Nat → Int64} {Lf Lh Li Lk LK LN LY : Nat → Int32} {Mf : Nat → Nat → Int64} {Sk Sn Sy : Nat → Int32} {Sr Sr' : Int32} {To : Nat → Nat → Int32} {TO Tp now now' : Nat → Int32} (hS : StN ns nl nt nm wd ou ga lc lt lw (nI nl) Lf Lh Li Lk LK LN LY (nI nm) Mf (nI ns) Sk Sn Sr Sy (nI nt) To TO Tp now) (h8 : ns < 8)
    {k y n : Nat} {m2 : Int32} (p1 : k ≤ 4) (p2 : y < 256) (p3 : n < 256) (p4 : y &&& n = 0) (hm : Sr' = Sr ||| nI (2 ^ ns) ∧ m2 = 0 ∨ Sr' = Sr ∧ m2 = 1)
    (e0 : now' 0 = nI (ns + 1)) (e16 : now' (16 + ns) = nI k) (e24 : now' (24 + ns) = nI y) (e32 : now' (32 + ns) = nI n) (e40 : now' (40 + ns) = m2) (hn : ∀ i, i ≠ 0 ∧ i ≠ 16 + ns ∧ i ≠ 24 + ns ∧ i ≠ 32 + ns ∧ i ≠ 40 + ns → now' i = now i) :
    ∃ Lf', F_X1_fitAll (nI (ns + 1)) (upd Sk ns (nI k)) (upd Sn ns (nI n)) (upd Sy ns (nI y)) (nI nl) Lf LK LN LY = some Lf' ∧ StN (ns + 1) nl nt nm wd ou ga lc lt lw (nI nl) Lf' Lh Li Lk LK LN LY (nI nm) Mf (nI (ns + 1)) (upd Sk ns (nI k)) (upd Sn ns (nI n)) Sr' (upd Sy ns (nI y)) (nI nt) To TO Tp now' := by
  obtain ⟨⟨n0, n1, n2, n3, -, -, -, -, bb0, bb1, bb2, bb3⟩, hSn, hL, hT, hM, ⟨r, hw⟩, hO, hLt, hG⟩ := hS
  have hSn' : SN now' (ns + 1) (upd Sk ns (nI k)) (upd Sn ns (nI n)) Sr' (upd Sy ns (nI y)) := by
    obtain ⟨⟨b, hb, rfl⟩, hs2⟩ := hSn
    have hp : 2 ^ ns ≤ 2 ^ 7 := Nat.pow_le_pow_right (by decide) (by omega)
    have hp2 : 2 ^ (ns + 1) = 2 ^ ns + 2 ^ ns := by rw [Nat.pow_succ]; omega
    obtain ⟨b', hb', rfl, hbs, hbo⟩ : ∃ b', b' < 2 ^ (ns + 1) ∧ Sr' = nI b' ∧ (b'.testBit ns = true ∧ m2 = 0 ∨ b'.testBit ns = false ∧ m2 = 1) ∧ ∀ s, s < ns → b'.testBit s = b.testBit s := by
      rcases hm with ⟨h1, h2⟩ | ⟨h1, h2⟩
      · refine ⟨b ||| 2 ^ ns, Nat.or_lt_two_pow (by omega) (by omega), by rw [h1, fa_or], Or.inl ⟨by rw [fb_bit_set]; simp, h2⟩, fun s hs => ?_⟩
        rw [fb_bit_set]
        simp [show ¬ s = ns by omega]
      · exact ⟨b, by omega, h1, Or.inr ⟨tb_lt hb (Nat.le_refl _), h2⟩, fun s hs => rfl⟩
    refine ⟨⟨b', hb', rfl⟩, fun s hs => ?_⟩
    rw [irm (b := b') (by omega) (show s < 32 by omega)]
    by_cases c : s = ns
    · subst c
      rw [pk_us, pk_us, pk_us, e16, e24, e32, e40]
      refine ⟨k, y, n, p1, p2, p3, p4, rfl, rfl, rfl, rfl, rfl, rfl, ?_⟩
      rcases hbs with ⟨g1, g2⟩ | ⟨g1, g2⟩
      · rw [g1]; exact Or.inl ⟨rfl, g2⟩
      · rw [g1]; exact Or.inr ⟨rfl, g2⟩
    · have h9 := hs2 s (by omega)
      rw [irm (b := b) (by omega) (show s < 32 by omega)] at h9
      rw [pk_un c, pk_un c, pk_un c, hn (16 + s) (by omega), hn (24 + s) (by omega), hn (32 + s) (by omega), hn (40 + s) (by omega), hbo s (by omega)]
      exact h9
  have hSt' : LSt now' nl LK LN LY := fun l hl w hw => by
    rw [hn (96 + 9 * l + 3 * w) (by omega), hn (96 + 9 * l + 3 * w + 1) (by omega), hn (96 + 9 * l + 3 * w + 2) (by omega)]
    exact hL.2.2 l hl w hw
  obtain ⟨Lf', f1, f2⟩ := c_fitAll (ns := ns + 1) (by omega) bb1 hSn' hSt' Lf
  refine ⟨Lf', f1, ⟨e0, (hn 1 (by omega)).trans n1, (hn 2 (by omega)).trans n2, (hn 3 (by omega)).trans n3, rfl, rfl, rfl, rfl, by omega, bb1, bb2, bb3⟩, hSn', ⟨⟨bb1, by omega, fun l hl => ?_⟩, fun l hl => ?_, hSt'⟩, TT_c (fun i h4 h5 => hn i (by omega)) hT, ?_, ⟨r, ?_⟩, OC_c (hn 7 (by omega)) (fun i h4 h5 => hn i (by omega)) hO, LT_c (hn 5 (by omega)) (fun i h4 h5 => hn i (by omega)) hLt, GP_c (hn 6 (by omega)) hG⟩
  · obtain ⟨kd, how, into, a1, a2, a3, a4, a5, a6, a7⟩ := hL.1.2.2 l hl
    rw [hn (48 + l) (by omega), hn (64 + l) (by omega), hn (80 + l) (by omega)]
    exact ⟨kd, how, into, a1, a2, a3, a4, a5, a6, a7.elim Or.inl (fun h => Or.inr (by omega))⟩
  · obtain ⟨a1, a2, a3, a4⟩ := hL.2.1 l hl
    rw [hn (48 + l) (by omega), hn (64 + l) (by omega), hn (80 + l) (by omega)]
    exact ⟨a1, a2, a3, fun w hw => f2 l hl w hw⟩
  · have hM1 : MN now' ns nt nm Mf := MN_c bb3 (fun i h4 h5 => hn i (by omega)) hM
    intro m hm1 t ht
    rcases hM1 m hm1 t ht with h1 | ⟨h1, q, q1, q2, q3, q4, q5⟩
    · exact Or.inl h1
    · exact Or.inr ⟨h1, q, dn_up q1 (by omega), q2, q3, q4, q5⟩
  · obtain ⟨r1, r2, r3, r4, r5⟩ := WDr_c (now' := now') (hn 4 (by omega)) (fun i h4 h5 => hn i (by omega)) hw
    exact ⟨dn_up r1 (by omega), r2, r3, r4, r5⟩
set_option maxHeartbeats 1000000 in
theorem sim_sound : Sim_sound Rel := by
  intro wc ak fi kwd kou kga klc klt klw kLc kLf kLh kLi kLk kLK kLN kLY kMc kMf kSc kSr kSk kSn kSy kTc kTo kTO kTp wd ou ga lc lt lw Lc Lf Lh Li Lk LK LN LY Mc Mf Sc Sr Sk Sn Sy Tc To TO Tp wt isK wts mfi now mkept mwt z0 z1 z2 hR
  obtain ⟨hW, hK, hF, hS⟩ := hR
  subst hF
  have hS0 := hS
  obtain ⟨ns, nl, nt, nm, hC, hSn, hL, hT, hM, ⟨r, hw⟩, hO, hLt, hG⟩ := hS
  obtain ⟨n0, n1, n2, n3, rfl, rfl, rfl, rfl, bb0, bb1, bb2, bb3⟩ := hC
  have ek : F_X5_isKind z0 = F_X11_in z0 0 4 := rfl
  have em : ∀ x, F_X5_isMarks x = F_X11_in x 0 255 := fun _ => rfl
  have e0i : (0 : Int32).toNatClampNeg = 0 := by decide
  have hS1 : StN ns nl nt nm wd ou ga lc lt lw (nI nl) Lf Lh Li Lk LK LN LY (nI nm) Mf (nI ns) Sk Sn Sr Sy (nI nt) To TO Tp now := ⟨⟨n0, n1, n2, n3, rfl, rfl, rfl, rfl, bb0, bb1, bb2, bb3⟩, hSn, hL, hT, hM, ⟨r, hw⟩, hO, hLt, hG⟩
  have e16 : (16 : Int32) + nI ns = nI (16 + ns) := nI_add 16 ns
  have e24 : (24 : Int32) + nI ns = nI (24 + ns) := nI_add 24 ns
  have e32 : (32 : Int32) + nI ns = nI (32 + ns) := nI_add 32 ns
  have e40 : (40 : Int32) + nI ns = nI (40 + ns) := nI_add 40 ns
  have core : ∀ (k y n : Nat) (Sr' m2 : Int32), k ≤ 4 → y < 256 → n < 256 → y &&& n = 0 → (Sr' = Sr ||| nI (2 ^ ns) ∧ m2 = 0 ∨ Sr' = Sr ∧ m2 = 1) → ns < 8 → ∃ Lf', F_X1_fitAll (nI (ns + 1)) (upd Sk ns (nI k)) (upd Sn ns (nI n)) (upd Sy ns (nI y)) (nI nl) Lf LK LN LY = some Lf' ∧ StR wd ou ga lc lt lw (nI nl) Lf' Lh Li Lk LK LN LY (nI nm) Mf (nI (ns + 1)) (upd Sk ns (nI k)) (upd Sn ns (nI n)) Sr' (upd Sy ns (nI y)) (nI nt) To TO Tp (upd (upd (upd (upd (upd now (16 + ns) (nI k)) (24 + ns) (nI y)) (32 + ns) (nI n)) (40 + ns) m2) 0 (nI (ns + 1))) := by
    intro k y n Sr' m2 p1 p2 p3 p4 hm h8
    obtain ⟨Lf', f1, f2⟩ := snd_core (now' := upd (upd (upd (upd (upd now (16 + ns) (nI k)) (24 + ns) (nI y)) (32 + ns) (nI n)) (40 + ns) m2) 0 (nI (ns + 1))) hS1 h8 p1 p2 p3 p4 hm pk_us (by rw [pk_un (by omega), pk_un (by omega), pk_un (by omega), pk_un (by omega), pk_us]) (by rw [pk_un (by omega), pk_un (by omega), pk_un (by omega), pk_us]) (by rw [pk_un (by omega), pk_un (by omega), pk_us]) (by rw [pk_un (by omega), pk_us]) (fun i hi => by rw [pk_un (by omega), pk_un (by omega), pk_un (by omega), pk_un (by omega), pk_un (by omega)])
    exact ⟨Lf', f1, ns + 1, nl, nt, nm, f2⟩
  have full : ns = 8 → ∀ a b c d, F_X11_sound_65 a b c d fi now = some (-3, fi + 1, now) := fun h a b c d => by
    unfold F_X11_sound_65
    rw [e0i, n0, h]; rfl
  have e6 : ∀ {α : Type} (g : Int32 → Int32 → Int32 → (Nat → Int32) → (Nat → Int32) → (Nat → Int32) → Option α) (a b c : Int32) (d e f : Nat → Int32), bn6_ (some (a, b, c, d, e, f)) g = g a b c d e f := fun _ _ _ _ _ _ _ => rfl
  rcases in_c z0 0 4 with ⟨h1, h2⟩ | ⟨h1, h2, h3⟩
  · iterate 10 apply Exists.intro
    refine ⟨?e1, ?e2, hW, hK, ?e5, ?e3⟩
    case e1 => unfold F_X10_sound F_X10_sound_0 F_X10_sound_15; rw [ek, h1]; rfl
    case e2 =>
      have : ∀ s0, F_X11_sound_15 z0 z1 z2 s0 fi now = some (-1, fi + 1, now) := fun s0 => by unfold F_X11_sound_15; rw [h1]; rfl
      unfold F_X11_sound F_X11_sound_0 F_X11_sound_14
      rw [this, this, ite_self, ite_self]
    case e5 => rfl
    case e3 => exact hS0
  · obtain ⟨k, hk, rfl⟩ := in_n (b := 4) (m := 4) rfl (by decide) h2 h3
    by_cases cm : z1 = -1 ∧ z2 = -1
    · obtain ⟨rfl, rfl⟩ := cm
      have r1 : F_X5_isRow (-1) (-1) = some 1 := rfl
      have ref : F_X11_sound (nI k) (-1) (-1) fi now = F_X11_sound_65 (nI k) (-1) (-1) 1 fi now := by
        unfold F_X11_sound F_X11_sound_0 F_X11_sound_15
        rw [if_pos rfl, if_pos rfl, h1, b1_s, if_neg (by decide), if_neg (by decide)]
      by_cases c8 : ns = 8
      · iterate 10 apply Exists.intro
        refine ⟨?e1, ?e2, hW, hK, ?e5, ?e3⟩
        case e1 => unfold F_X10_sound F_X10_sound_0; rw [ek, h1, b1_s, if_neg (by decide), r1, b1_s, if_neg (by decide), c8]; rfl
        case e2 => rw [ref]; exact full c8 _ _ _ _
        case e5 => rfl
        case e3 => rw [c8] at hS0; exact hS0
      · have hc : ¬ nI ns = 8 := fun q => c8 ((e8_ (by omega)).mp q)
        obtain ⟨Lf', f1, f2⟩ := core k 0 0 (Sr ||| nI (2 ^ ns)) 0 hk (by decide) (by decide) (by decide) (Or.inl ⟨rfl, rfl⟩) (by omega)
        iterate 10 apply Exists.intro
        refine ⟨?e1, ?e2, hW, hK, ?e5, f2⟩
        case e1 =>
          unfold F_X10_sound F_X10_sound_0 F_X5_add F_X5_add_0 F_X5_add_16 F_X5_add_36 F_X5_add_60 F_X5_add_77
          rw [ek, h1, b1_s, if_neg (by decide), r1, b1_s, if_neg (by decide), if_neg hc, if_pos rfl, if_neg (by decide), lt_e, sh1 (show ns < 31 by omega), ck_ok rfl (show ns < 8 by omega) (by decide), lt_e, if_neg (by decide), ck_ok rfl (show ns < 8 by omega) (by decide), lt_e, if_neg (by decide), ck_ok rfl (show ns < 8 by omega) (by decide), lt_e, lt_e, nI_1, nI_clamp (n := ns) (by omega), e6]
          exact (show bn1_ (F_X1_fitAll (nI (ns + 1)) (upd Sk ns (nI k)) (upd Sn ns (nI 0)) (upd Sy ns (nI 0)) (nI nl) Lf LK LN LY) _ = _ by rw [f1]; rfl)
        case e2 =>
          rw [ref]
          unfold F_X11_sound_65 F_X11_sound_117 F_X11_sound_137 F_X11_sound_157
          rw [e0i, n0, ck_lit (i := 0) (n := 1600) (by decide), lt_e, if_neg hc, e16, e24, e32, e40, ck_ok rfl (show 16 + ns < 1600 by omega) (by decide), lt_e, if_neg (by decide), ck_ok rfl (show 24 + ns < 1600 by omega) (by decide), lt_e, if_neg (by decide), ck_ok rfl (show 32 + ns < 1600 by omega) (by decide), lt_e, if_neg (by decide), ck_ok rfl (show 40 + ns < 1600 by omega) (by decide), lt_e, ck_lit (i := 0) (n := 1600) (by decide), lt_e, nI_1, nI_clamp (n := 16 + ns) (by omega), nI_clamp (n := 24 + ns) (by omega), nI_clamp (n := 32 + ns) (by omega), nI_clamp (n := 40 + ns) (by omega)]
          rfl
        case e5 => rfl
    · have rI : F_X5_isRow z1 z2 = F_X5_isRow_12 z1 z2 := by
        unfold F_X5_isRow F_X5_isRow_0
        by_cases c1 : z1 = -1
        · rw [if_pos c1, if_neg (fun q => cm ⟨c1, q⟩)]
        · rw [if_neg c1]
      have ref0 : F_X11_sound (nI k) z1 z2 fi now = F_X11_sound_15 (nI k) z1 z2 0 fi now := by
        unfold F_X11_sound F_X11_sound_0 F_X11_sound_14
        by_cases c1 : z1 = -1
        · rw [if_pos c1, if_neg (fun q => cm ⟨c1, q⟩)]
        · rw [if_neg c1]
      have bad : F_X5_isRow_12 z1 z2 = some 0 → F_X10_sound (nI k) z1 z2 fi (nI nl) Lf LK LN LY (nI ns) Sr Sk Sn Sy = some (-1, fi + 1, Lf, nI ns, Sr, Sk, Sn, Sy) := fun h => by
        unfold F_X10_sound F_X10_sound_0 F_X10_sound_15
        rw [ek, h1, b1_s, if_neg (by decide), rI, h]; rfl
      rcases in_c z1 0 255 with ⟨k1, k2⟩ | ⟨k1, k2, k3⟩
      · refine ⟨_, _, _, _, _, _, _, _, _, _, bad (by unfold F_X5_isRow_12; rw [em, k1]; rfl), ?_, hW, hK, rfl, hS0⟩
        rw [ref0]; unfold F_X11_sound_15 F_X11_sound_59; rw [h1, b1_s, if_neg (by decide), if_pos rfl, k1]; rfl
      · rcases in_c z2 0 255 with ⟨m1, m2⟩ | ⟨m1, m2, m3⟩
        · refine ⟨_, _, _, _, _, _, _, _, _, _, bad (by unfold F_X5_isRow_12; rw [em, k1, b1_s, if_neg (by decide), em, m1]; rfl), ?_, hW, hK, rfl, hS0⟩
          rw [ref0]; unfold F_X11_sound_15 F_X11_sound_59; rw [h1, b1_s, if_neg (by decide), if_pos rfl, k1, b1_s, if_neg (by decide), m1]; rfl
        · by_cases c0 : z1 &&& z2 = 0
          · obtain ⟨y, hy, rfl⟩ := in_n (b := 255) (m := 255) rfl (by decide) k2 k3
            obtain ⟨n, hn0, rfl⟩ := in_n (b := 255) (m := 255) rfl (by decide) m2 m3
            have p4 : y &&& n = 0 := by
              rw [fa_and] at c0
              have h5 : y &&& n ≤ y := Nat.and_le_left
              exact (e0_ (by omega)).mp c0
            have r1 : F_X5_isRow_12 (nI y) (nI n) = some 1 := by
              unfold F_X5_isRow_12
              rw [em, k1, b1_s, if_neg (by decide), em, m1, b1_s, if_neg (by decide), if_pos c0]
            have ref : F_X11_sound (nI k) (nI y) (nI n) fi now = F_X11_sound_65 (nI k) (nI y) (nI n) 0 fi now := by
              rw [ref0]; unfold F_X11_sound_15
              rw [h1, b1_s, if_neg (by decide), if_pos rfl, k1, b1_s, if_neg (by decide), m1, b1_s, if_neg (by decide), if_pos c0]
            have ym : ¬ nI y = -1 := fun q => by have := nI_pos (n := y) (by omega); rw [q] at this; exact this (by decide)
            by_cases c8 : ns = 8
            · iterate 10 apply Exists.intro
              refine ⟨?e1, ?e2, hW, hK, ?e5, ?e3⟩
              case e1 => unfold F_X10_sound F_X10_sound_0; rw [ek, h1, b1_s, if_neg (by decide), rI, r1, b1_s, if_neg (by decide), c8]; rfl
              case e2 => rw [ref]; exact full c8 _ _ _ _
              case e5 => rfl
              case e3 => rw [c8] at hS0; exact hS0
            · have hc : ¬ nI ns = 8 := fun q => c8 ((e8_ (by omega)).mp q)
              obtain ⟨Lf', f1, f2⟩ := core k y n Sr 1 hk (by omega) (by omega) p4 (Or.inr ⟨rfl, rfl⟩) (by omega)
              iterate 10 apply Exists.intro
              refine ⟨?e1, ?e2, hW, hK, ?e5, f2⟩
              case e1 =>
                unfold F_X10_sound F_X10_sound_0 F_X5_add F_X5_add_0 F_X5_add_16 F_X5_add_36 F_X5_add_60 F_X5_add_77
                rw [ek, h1, b1_s, if_neg (by decide), rI, r1, b1_s, if_neg (by decide), if_neg hc, if_neg ym, if_pos rfl, ck_ok rfl (show ns < 8 by omega) (by decide), lt_e, if_pos rfl, ck_ok rfl (show ns < 8 by omega) (by decide), lt_e, if_pos rfl, ck_ok rfl (show ns < 8 by omega) (by decide), lt_e, lt_e, nI_1, nI_clamp (n := ns) (by omega), e6, f1]
                rfl
              case e2 =>
                rw [ref]
                unfold F_X11_sound_65 F_X11_sound_117 F_X11_sound_137 F_X11_sound_157
                rw [e0i, n0, ck_lit (i := 0) (n := 1600) (by decide), lt_e, if_neg hc, e16, e24, e32, e40, ck_ok rfl (show 16 + ns < 1600 by omega) (by decide), lt_e, if_pos rfl, ck_ok rfl (show 24 + ns < 1600 by omega) (by decide), lt_e, if_pos rfl, ck_ok rfl (show 32 + ns < 1600 by omega) (by decide), lt_e, if_pos rfl, ck_ok rfl (show 40 + ns < 1600 by omega) (by decide), lt_e, ck_lit (i := 0) (n := 1600) (by decide), lt_e, nI_1, nI_clamp (n := 16 + ns) (by omega), nI_clamp (n := 24 + ns) (by omega), nI_clamp (n := 32 + ns) (by omega), nI_clamp (n := 40 + ns) (by omega)]
              case e5 => rfl
          · refine ⟨_, _, _, _, _, _, _, _, _, _, bad (by unfold F_X5_isRow_12; rw [em, k1, b1_s, if_neg (by decide), em, m1, b1_s, if_neg (by decide), if_neg c0]), ?_, hW, hK, rfl, hS0⟩
            rw [ref0]; unfold F_X11_sound_15 F_X11_sound_59; rw [h1, b1_s, if_neg (by decide), if_pos rfl, k1, b1_s, if_neg (by decide), m1, b1_s, if_neg (by decide), if_neg c0]; rfl
