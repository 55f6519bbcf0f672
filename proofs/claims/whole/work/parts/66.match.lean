/-! match -/
def rowN (g : Nat) (c : Nat → Nat) (prev : Nat → Nat) (h : Nat) : Nat → Nat
  | 0 => h
  | j + 1 => min (min (prev (j + 1)) (rowN g c prev h j) + g) (prev j + c j)
def DD (g : Nat) (c : Nat → Nat → Nat) : Nat → Nat → Nat
  | 0 => fun j => j * g
  | i + 1 => rowN g (c i) (DD g c i) ((i + 1) * g)
theorem DD_0 (g : Nat) (c : Nat → Nat → Nat) (j : Nat) : DD g c 0 j = j * g := rfl
theorem DD_s0 (g : Nat) (c : Nat → Nat → Nat) (i : Nat) : DD g c (i + 1) 0 = (i + 1) * g := rfl
theorem DD_ss (g : Nat) (c : Nat → Nat → Nat) (i j : Nat) : DD g c (i + 1) (j + 1) = min (min (DD g c i (j + 1)) (DD g c (i + 1) j) + g) (DD g c i j + c i j) := rfl
theorem DD_i0 (g : Nat) (c : Nat → Nat → Nat) (i : Nat) : DD g c i 0 = i * g := by
  cases i with
  | zero => rfl
  | succ i => rfl
theorem DD_le (g : Nat) (c : Nat → Nat → Nat) : ∀ i j, DD g c i j ≤ (i + j) * g := by
  intro i
  induction i with
  | zero => intro j; rw [DD_0, Nat.zero_add]; exact Nat.le_refl _
  | succ i ih =>
    intro j
    cases j with
    | zero => rw [DD_s0]; exact Nat.le_refl _
    | succ j =>
      have h1 := ih (j + 1)
      have e : (i + 1 + (j + 1)) * g = (i + (j + 1)) * g + g := by rw [show i + 1 + (j + 1) = (i + (j + 1)) + 1 by omega, Nat.succ_mul]
      rw [DD_ss, e]
      have h2 : min (DD g c i (j + 1)) (DD g c (i + 1) j) ≤ DD g c i (j + 1) := Nat.min_le_left _ _
      have h3 : min (min (DD g c i (j + 1)) (DD g c (i + 1) j) + g) (DD g c i j + c i j) ≤ min (DD g c i (j + 1)) (DD g c (i + 1) j) + g := Nat.min_le_left _ _
      omega
theorem DD_b {g : Nat} {c : Nat → Nat → Nat} {i j : Nat} (hg : g ≤ 99) (hi : i ≤ 8) (hj : j ≤ 9) : DD g c i j ≤ 1683 := by
  have h1 := DD_le g c i j
  have h2 : (i + j) * g ≤ 17 * 99 := Nat.mul_le_mul (by omega) hg
  omega
theorem mi_n {a b : Nat} (ha : a < 2 ^ 31) (hb : b < 2 ^ 31) : mi_ (nI a) (nI b) = nI (min a b) := by
  unfold mi_
  by_cases c : b < a
  · rw [if_pos (nI_lt c ha), Nat.min_eq_right (by omega)]
  · rw [if_neg (nI_nlt (by omega) hb), Nat.min_eq_left (by omega)]
theorem ls_n {a b : Nat} (ha : a < 2 ^ 31) (hb : b < 2 ^ 31) : F_X11_lesser (nI a) (nI b) = some (nI (min a b)) := by
  unfold F_X11_lesser F_X11_lesser_0
  by_cases c : b ≤ a
  · rw [if_pos (nI_le c ha), Nat.min_eq_right c]
  · rw [if_neg (nI_ge (by omega) hb), Nat.min_eq_left (by omega)]
/-- what two sounds side by side cost -/
def cs (now : Nat → Int32) (a b : Nat) : Nat := if a = b then 0 else 1 + fb_ct (fun k => ((gn now (24 + a) &&& gn now (32 + b)) ||| (gn now (32 + a) &&& gn now (24 + b))).testBit k) 8
theorem cs_le (now : Nat → Int32) (a b : Nat) : cs now a b ≤ 9 := by
  unfold cs
  split
  · omega
  · have := fb_ct_le (fun k => ((gn now (24 + a) &&& gn now (32 + b)) ||| (gn now (32 + a) &&& gn now (24 + b))).testBit k) 8
    omega
section MC
variable {now : Nat → Int32} {ns : Nat} {Sk Sn Sy : Nat → Int32} {Sr : Int32}
theorem c_apart (h8 : ns ≤ 8) (hS : SN now ns Sk Sn Sr Sy) {a b : Nat} (ha : a < ns) (hb : b < ns) : F_X5_apart (nI a) (nI b) Sn Sy = some (nI (cs now a b)) := by
  obtain ⟨k1, y1, m1, p1, p2, p3, p4, p5, p6, p7, p8, p9, p10, p11⟩ := hS.2 a ha
  obtain ⟨k2, y2, m2, q1, q2, q3, q4, q5, q6, q7, q8, q9, q10, q11⟩ := hS.2 b hb
  unfold F_X5_apart F_X5_apart_0 cs
  by_cases c : a = b
  · rw [if_pos (by rw [c]), if_pos c]; rfl
  · have l1 : y1 &&& m2 ≤ y1 := Nat.and_le_left
    have l2 : m1 &&& y2 ≤ m1 := Nat.and_le_left
    rw [if_neg (fun q => c ((nI_eq (by omega) (by omega)).mp q)), if_neg c, ck_ok rfl (show a < 8 by omega) (by decide), ck_ok rfl (show b < 8 by omega) (by decide), nI_clamp (n := a) (by omega), nI_clamp (n := b) (by omega), p9, p10, q9, q10, fa_and, fa_and, bc8 (y1 &&& m2) (by omega), b1_s, ck_ok rfl (show a < 8 by omega) (by decide), ck_ok rfl (show b < 8 by omega) (by decide), bc8 (m1 &&& y2) (by omega), b1_s, show (1 : Int32) = nI 1 from rfl, nI_add, nI_add, gn_of p6 (by omega), gn_of p7 (by omega), gn_of q6 (by omega), gn_of q7 (by omega)]
    congr 2
    have e : (fun k => ((y1 &&& m2) ||| (m1 &&& y2)).testBit k) = (fun k => (y1 &&& m2).testBit k || (m1 &&& y2).testBit k) := by
      funext k
      rw [Nat.testBit_or]
    rw [e, fb_ct_or (fun k _ hk => ?_)]
    · exact Nat.add_assoc _ _ _
    · rw [Nat.testBit_and, Nat.testBit_and, Bool.and_eq_true, Bool.and_eq_true] at hk
      have hz : (y1 &&& m1).testBit k = true := by rw [Nat.testBit_and, hk.1.1, hk.2.1]; rfl
      rw [p4, Nat.zero_testBit] at hz
      cases hz
theorem m_costOf (h8 : ns ≤ 8) (hS : SN now ns Sk Sn Sr Sy) {a b : Nat} (ha : a < ns) (hb : b < ns) : F_X11_costOf (nI a) (nI b) now = some (nI (cs now a b)) := by
  obtain ⟨k1, y1, m1, p1, p2, p3, p4, p5, p6, p7, p8, p9, p10, p11⟩ := hS.2 a ha
  obtain ⟨k2, y2, m2, q1, q2, q3, q4, q5, q6, q7, q8, q9, q10, q11⟩ := hS.2 b hb
  unfold F_X11_costOf F_X11_costOf_0 cs
  by_cases c : a = b
  · rw [if_pos (by rw [c]), if_pos c]; rfl
  · have e24 : ∀ x, (24 : Int32) + nI x = nI (24 + x) := fun x => nI_add 24 x
    have e32 : ∀ x, (32 : Int32) + nI x = nI (32 + x) := fun x => nI_add 32 x
    have hlt : ((y1 &&& m2) ||| (m1 &&& y2)) < 2 ^ 8 := Nat.or_lt_two_pow (Nat.lt_of_le_of_lt Nat.and_le_left p2) (Nat.lt_of_le_of_lt Nat.and_le_left p3)
    rw [if_neg (fun q => c ((nI_eq (by omega) (by omega)).mp q)), if_neg c, e24, e24, e32, e32, ck_ok rfl (show 24 + a < 1600 by omega) (by decide), ck_ok rfl (show 32 + b < 1600 by omega) (by decide), ck_ok rfl (show 32 + a < 1600 by omega) (by decide), ck_ok rfl (show 24 + b < 1600 by omega) (by decide), lt_e, nI_clamp (n := 24 + a) (by omega), nI_clamp (n := 32 + b) (by omega), nI_clamp (n := 32 + a) (by omega), nI_clamp (n := 24 + b) (by omega), p6, p7, q6, q7, fa_and, fa_and, fa_or, m_bits8 _ hlt, b1_s, show (1 : Int32) = nI 1 from rfl, nI_add, gn_of p6 (by omega), gn_of p7 (by omega), gn_of q6 (by omega), gn_of q7 (by omega)]
end MC
section ML
variable {now : Nat → Int32} {ns g : Nat} {Sk Sn Sy : Nat → Int32} {Sr : Int32} {r1 r2 : List Nat}
def cM (now : Nat → Int32) (r1 r2 : List Nat) (i j : Nat) : Nat := cs now (r1.reverse.getD i 0) (r2.reverse.getD j 0)
theorem getR {n i : Nat} {r : List Nat} (h : dn n r) (hi : i < r.length) : r.reverse.getD i 0 < n := dn_at (dn_rev.mpr h) (by rw [List.length_reverse]; exact hi)
theorem c_81L (K : Int32 → (Nat → Int32) → Option (Int32 × (Nat → Int32))) (h8 : ns ≤ 8) (hS : SN now ns Sk Sn Sr Sy) (hg : g ≤ 99) (d1 : dn ns r1) (d2 : dn ns r2) (l1 : r1.length ≤ 8) (l2 : r2.length ≤ 8) {i : Nat} (hi : i < r1.length) (fuel : Nat) :
    ∀ (q : Nat) (co1 : Nat → Int32), q ≤ r2.length → r2.length - q < fuel → (∀ k, k ≤ q → co1 k = nI (DD g (cM now r1 r2) (i + 1) k)) → (∀ k, q < k → k ≤ r2.length → co1 k = nI (DD g (cM now r1 r2) i k)) → ∃ co2, F_X0_leastCost_81L K (wl r1) (wl r2) (nI g) (nI r1.length) (nI r2.length) (nI (i + 1)) Sn Sy fuel (nI (DD g (cM now r1 r2) i q)) (nI (q + 1)) co1 = K (nI (i + 2)) co2 ∧ ∀ k, k ≤ r2.length → co2 k = nI (DD g (cM now r1 r2) (i + 1) k) := by
  induction fuel with
  | zero => intro q co1 _ h; exact absurd h (Nat.not_lt_zero _)
  | succ fuel ih =>
    intro q co1 hq hf h1 h2
    have e0 : F_X0_leastCost_81L K (wl r1) (wl r2) (nI g) (nI r1.length) (nI r2.length) (nI (i + 1)) Sn Sy (fuel + 1) (nI (DD g (cM now r1 r2) i q)) (nI (q + 1)) co1 = F_X0_leastCost_81 K (F_X0_leastCost_81L K (wl r1) (wl r2) (nI g) (nI r1.length) (nI r2.length) (nI (i + 1)) Sn Sy fuel) (wl r1) (wl r2) (nI g) (nI r1.length) (nI r2.length) (nI (i + 1)) (nI (DD g (cM now r1 r2) i q)) (nI (q + 1)) co1 Sn Sy := rfl
    rw [e0]
    unfold F_X0_leastCost_81
    by_cases c : q = r2.length
    · rw [if_pos (nI_lt (by omega) (by omega)), lt_e, nI_1]
      subst c
      exact ⟨co1, rfl, h1⟩
    · have hq2 : q < r2.length := by omega
      have b1 := DD_b (c := cM now r1 r2) (i := i) (j := q) hg (by omega) (by omega)
      have b2 := DD_b (c := cM now r1 r2) (i := i) (j := q + 1) hg (by omega) (by omega)
      have b3 := DD_b (c := cM now r1 r2) (i := i + 1) (j := q) hg (by omega) (by omega)
      have b4 := cs_le now (r1.reverse.getD i 0) (r2.reverse.getD q 0)
      have hmin1 : min (DD g (cM now r1 r2) i (q + 1)) (DD g (cM now r1 r2) (i + 1) q) ≤ 1683 := Nat.le_trans (Nat.min_le_left _ _) b2
      rw [if_neg (nI_nlt (by omega) (by omega)), nI_pred, nI_pred, w_at (dn_dg d1 h8) (by omega) hi, b1_s, w_at (dn_dg d2 h8) (by omega) hq2, b1_s, getD_rev hi, getD_rev hq2, c_apart h8 hS (getR d1 hi) (getR d2 hq2), b1_s, ck_ok rfl (show q + 1 < 9 by omega) (by decide), ck_ok rfl (show q < 9 by omega) (by decide), lt_e, lt_e, ck_ok rfl (show q + 1 < 9 by omega) (by decide), lt_e, ck_ok rfl (show q + 1 < 9 by omega) (by decide), lt_e, lt_e, nI_1, nI_clamp (n := q + 1) (by omega), nI_clamp (n := q) (by omega), h2 (q + 1) (by omega) (by omega), h1 q (Nat.le_refl _), mi_n (by omega) (by omega), nI_add, nI_add, mi_n (by omega) (by omega)]
      refine ih (q + 1) _ (by omega) (by omega) (fun k hk => ?_) (fun k hk hk2 => ?_)
      · by_cases ck : k = q + 1
        · rw [ck, pk_us]; rfl
        · rw [pk_un ck]; exact h1 k (by omega)
      · rw [pk_un (by omega)]; exact h2 k (by omega) hk2
theorem c_52L (h8 : ns ≤ 8) (hS : SN now ns Sk Sn Sr Sy) (hg : g ≤ 99) (d1 : dn ns r1) (d2 : dn ns r2) (l1 : r1.length ≤ 8) (l2 : r2.length ≤ 8) (fuel : Nat) :
    ∀ (i : Nat) (co1 : Nat → Int32), i ≤ r1.length → r1.length - i < fuel → (∀ k, k ≤ r2.length → co1 k = nI (DD g (cM now r1 r2) i k)) → ∃ co2, F_X0_leastCost_52L (wl r1) (wl r2) (nI g) (nI r1.length) (nI r2.length) Sn Sy fuel (nI (i + 1)) co1 = some (nI (DD g (cM now r1 r2) r1.length r2.length), co2) := by
  induction fuel with
  | zero => intro i co1 _ h; exact absurd h (Nat.not_lt_zero _)
  | succ fuel ih =>
    intro i co1 hi hf h1
    have e0 : F_X0_leastCost_52L (wl r1) (wl r2) (nI g) (nI r1.length) (nI r2.length) Sn Sy (fuel + 1) (nI (i + 1)) co1 = F_X0_leastCost_52 (F_X0_leastCost_52L (wl r1) (wl r2) (nI g) (nI r1.length) (nI r2.length) Sn Sy fuel) (wl r1) (wl r2) (nI g) (nI r1.length) (nI r2.length) (nI (i + 1)) co1 Sn Sy := rfl
    rw [e0]
    unfold F_X0_leastCost_52
    by_cases c : i = r1.length
    · rw [if_pos (nI_lt (by omega) (by omega)), ck_ok rfl (show r2.length < 9 by omega) (by decide), nI_clamp (n := r2.length) (by omega), h1 _ (Nat.le_refl _), c]
      exact ⟨co1, rfl⟩
    · have hi2 : i < r1.length := by omega
      obtain ⟨co2, q1, q2⟩ := c_81L (F_X0_leastCost_52L (wl r1) (wl r2) (nI g) (nI r1.length) (nI r2.length) Sn Sy fuel) h8 hS hg d1 d2 l1 l2 hi2 fu_ 0 (upd co1 0 (nI ((i + 1) * g))) (Nat.zero_le _) (by unfold fu_; omega) (fun k hk => by
        rw [show k = 0 by omega, pk_us]; rfl) (fun k hk hk2 => by rw [pk_un (by omega)]; exact h1 k hk2)
      rw [if_neg (nI_nlt (by omega) (by omega)), ck_lit (i := 0) (n := 9) (by decide), lt_e, ck_lit (i := 0) (n := 9) (by decide), lt_e, show (0 : Int32).toNatClampNeg = 0 by decide, h1 0 (Nat.zero_le _), pk_mul, show (1 : Int32) = nI (0 + 1) from rfl, q1]
      exact ih (i + 1) co2 (by omega) (by omega) q2
theorem c_24L (h8 : ns ≤ 8) (hS : SN now ns Sk Sn Sr Sy) (hg : g ≤ 99) (d1 : dn ns r1) (d2 : dn ns r2) (l1 : r1.length ≤ 8) (l2 : r2.length ≤ 8) (fuel : Nat) :
    ∀ (j : Nat) (co1 : Nat → Int32), j ≤ r2.length + 1 → r2.length + 1 - j < fuel → (∀ k, k < j → co1 k = nI (k * g)) → ∃ co2, F_X0_leastCost_24L (wl r1) (wl r2) (nI g) (nI r1.length) (nI r2.length) Sn Sy fuel (nI j) co1 = some (nI (DD g (cM now r1 r2) r1.length r2.length), co2) := by
  induction fuel with
  | zero => intro j co1 _ h; exact absurd h (Nat.not_lt_zero _)
  | succ fuel ih =>
    intro j co1 hj hf h1
    have e0 : F_X0_leastCost_24L (wl r1) (wl r2) (nI g) (nI r1.length) (nI r2.length) Sn Sy (fuel + 1) (nI j) co1 = F_X0_leastCost_24 (F_X0_leastCost_24L (wl r1) (wl r2) (nI g) (nI r1.length) (nI r2.length) Sn Sy fuel) (wl r1) (wl r2) (nI g) (nI r1.length) (nI r2.length) (nI j) co1 Sn Sy := rfl
    rw [e0]
    unfold F_X0_leastCost_24
    by_cases c : j = r2.length + 1
    · rw [if_pos (nI_lt (by omega) (by omega))]
      exact c_52L h8 hS hg d1 d2 l1 l2 fu_ 0 co1 (Nat.zero_le _) (by unfold fu_; omega) (fun k hk => h1 k (by omega))
    · rw [if_neg (nI_nlt (by omega) (by omega)), ck_ok rfl (show j < 9 by omega) (by decide), lt_e, lt_e, nI_1, nI_clamp (n := j) (by omega), pk_mul]
      refine ih (j + 1) _ (by omega) (by omega) (fun k hk => ?_)
      by_cases ck : k = j
      · rw [ck, pk_us]
      · rw [pk_un ck]; exact h1 k (by omega)
theorem c_least (h8 : ns ≤ 8) (hS : SN now ns Sk Sn Sr Sy) (hg : g ≤ 99) (d1 : dn ns r1) (d2 : dn ns r2) (l1 : r1.length ≤ 8) (l2 : r2.length ≤ 8) (co1 : Nat → Int32) : ∃ co2, F_X0_leastCost (wl r1) (wl r2) co1 (nI g) Sn Sy = some (nI (DD g (cM now r1 r2) r1.length r2.length), co2) := by
  unfold F_X0_leastCost F_X0_leastCost_0
  rw [w_size (dn_dg d1 h8) (by omega), b1_s, w_size (dn_dg d2 h8) (by omega), b1_s]
  exact c_24L h8 hS hg d1 d2 l1 l2 fu_ 0 co1 (Nat.zero_le _) (by unfold fu_; omega) (fun k h => absurd h (Nat.not_lt_zero k))
theorem m_76L (K : Int32 → (Nat → Int32) → Option (Int32 × Int32 × (Nat → Int32))) (h8 : ns ≤ 8) (hS : SN now ns Sk Sn Sr Sy) (hg : g ≤ 99) (h6 : now 6 = nI g) (d1 : dn ns r1) (d2 : dn ns r2) (l1 : r1.length ≤ 8) (l2 : r2.length ≤ 8) {m t u : Nat} (hm : m < 8) (ht : t < 6) (hu : u < 6) (a1 : arr (fun i => now (384 + 8 * (6 * m + t) + i)) r1.reverse) (a2 : arr (fun i => now (384 + 8 * (6 * m + u) + i)) r2.reverse) (fi : Int32) {i : Nat} (hi : i ≤ r1.length) (fuel : Nat) :
    ∀ (j : Nat) (su : Nat → Int32), j ≤ r2.length + 1 → r2.length + 1 - j < fuel → (∀ a b, a < i → b ≤ r2.length → su (9 * a + b) = nI (DD g (cM now r1 r2) a b)) → (∀ b, b < j → su (9 * i + b) = nI (DD g (cM now r1 r2) i b)) → ∃ su2, F_X11_match_76L K (nI m) (nI t) (nI u) (nI r1.length) (nI r2.length) (nI i) fi now fuel (nI j) su = K (nI (i + 1)) su2 ∧ (∀ a b, a < i + 1 → b ≤ r2.length → su2 (9 * a + b) = nI (DD g (cM now r1 r2) a b)) := by
  have efm : ∀ v, F_X11_formAt (nI m) (nI v) = some (nI (384 + 8 * (6 * m + v))) := fun v => by
    unfold F_X11_formAt F_X11_formAt_0
    rw [show (384 : Int32) = nI 384 from rfl, show (8 : Int32) = nI 8 from rfl, show (6 : Int32) = nI 6 from rfl, pk_mul, nI_add, pk_mul, nI_add]
  have e9 : (9 : Int32) * nI i = nI (9 * i) := pk_mul 9 i
  induction fuel with
  | zero => intro j su _ h; exact absurd h (Nat.not_lt_zero _)
  | succ fuel ih =>
    intro j su hj hf h1 h2
    have e0 : F_X11_match_76L K (nI m) (nI t) (nI u) (nI r1.length) (nI r2.length) (nI i) fi now (fuel + 1) (nI j) su = F_X11_match_76 K (F_X11_match_76L K (nI m) (nI t) (nI u) (nI r1.length) (nI r2.length) (nI i) fi now fuel) (nI m) (nI t) (nI u) (nI r1.length) (nI r2.length) (nI i) (nI j) fi now su := rfl
    rw [e0]
    unfold F_X11_match_76
    by_cases c : j = r2.length + 1
    · rw [if_pos (nI_lt (by omega) (by omega)), lt_e, nI_1]
      refine ⟨su, rfl, fun a b ha hb => ?_⟩
      by_cases ca : a = i
      · rw [ca]; exact h2 b (by omega)
      · exact h1 a b (by omega) hb
    · have hj2 : j ≤ r2.length := by omega
      have fin : F_X11_match_248 K (F_X11_match_76L K (nI m) (nI t) (nI u) (nI r1.length) (nI r2.length) (nI i) fi now fuel) (nI m) (nI t) (nI u) (nI r1.length) (nI r2.length) (nI i) (nI j) (nI (DD g (cM now r1 r2) i j)) fi now su = F_X11_match_76L K (nI m) (nI t) (nI u) (nI r1.length) (nI r2.length) (nI i) fi now fuel (nI (j + 1)) (upd su (9 * i + j) (nI (DD g (cM now r1 r2) i j))) := by
        unfold F_X11_match_248
        rw [e9, nI_add, ck_ok rfl (show 9 * i + j < 81 by omega) (by decide), lt_e, lt_e, nI_1, nI_clamp (n := 9 * i + j) (by omega)]
      have rec2 := ih (j + 1) (upd su (9 * i + j) (nI (DD g (cM now r1 r2) i j))) (by omega) (by omega) (fun a b ha hb => by rw [pk_un (by omega)]; exact h1 a b ha hb) (fun b hb => by
        by_cases cb : b = j
        · rw [cb, pk_us]
        · rw [pk_un (by omega)]; exact h2 b (by omega))
      rw [if_neg (nI_nlt (by omega) (by omega))]
      have e6c : (6 : Int32).toNatClampNeg = 6 := by decide
      have bd : ∀ a b, a ≤ 8 → b ≤ 8 → DD g (cM now r1 r2) a b ≤ 1683 := fun a b ha hb => DD_b hg ha (by omega)
      cases i with
      | zero =>
        rw [if_pos (show nI 0 = 0 from rfl)]
        cases j with
        | zero =>
          rw [if_pos (show nI 0 = 0 from rfl)]
          unfold F_X11_match_99 F_X11_match_137 F_X11_match_172
          rw [if_pos (show nI 0 ≤ 0 by decide), if_pos (show nI 0 ≤ 0 by decide), if_pos (show nI 0 ≤ 0 by decide)]
          have hz : nI (DD g (cM now r1 r2) 0 0) = 0 := by rw [DD_0, Nat.zero_mul]; rfl
          rw [hz] at fin
          rw [fin]
          rw [hz] at rec2
          exact rec2
        | succ j =>
          have hb0 := bd 0 j (by omega) (by omega)
          have hv : min 1000000 (DD g (cM now r1 r2) 0 j + g) = DD g (cM now r1 r2) 0 (j + 1) := by
            rw [Nat.min_eq_right (by omega), DD_0, DD_0, Nat.succ_mul]
          rw [if_neg (nI_ne0 (by omega) (by omega))]
          unfold F_X11_match_97 F_X11_match_99 F_X11_match_137 F_X11_match_172
          have ei : nI (9 * 0) + nI (j + 1) - 1 = nI (9 * 0 + j) := by rw [nI_add, show 9 * 0 + (j + 1) = (9 * 0 + j) + 1 by omega, nI_pred]
          rw [if_pos (show nI 0 ≤ 0 by decide), if_neg (nI_nle (by omega) (by omega)), e9, ei, ck_ok rfl (show 9 * 0 + j < 81 by omega) (by decide), ck_lit (i := 6) (n := 1600) (by decide), nI_clamp (n := 9 * 0 + j) (by omega), h2 j (by omega), e6c, h6, nI_add, show (1000000 : Int32) = nI 1000000 from rfl, ls_n (by omega) (by omega), b1_s, if_pos (show nI 0 ≤ 0 by decide), hv, fin]
          exact rec2
      | succ i =>
        rw [if_neg (nI_ne0 (by omega) (by omega))]
        unfold F_X11_match_97 F_X11_match_99 F_X11_match_137
        have e9i : nI (9 * (i + 1)) - 9 = nI (9 * i) := by rw [show (9 : Int32) = nI 9 from rfl, pk_sub (by omega)]; congr 1
        have hbu := bd i j (by omega) (by omega)
        rw [if_neg (nI_nle (by omega) (by omega)), e9, e9i, nI_add, ck_ok rfl (show 9 * i + j < 81 by omega) (by decide), ck_lit (i := 6) (n := 1600) (by decide), nI_clamp (n := 9 * i + j) (by omega), h1 i j (by omega) hj2, e6c, h6, nI_add, show (1000000 : Int32) = nI 1000000 from rfl, ls_n (by omega) (by omega), b1_s]
        cases j with
        | zero =>
          have hv : min 1000000 (DD g (cM now r1 r2) i 0 + g) = DD g (cM now r1 r2) (i + 1) 0 := by
            rw [Nat.min_eq_right (by omega), DD_i0, DD_s0, Nat.succ_mul]
          unfold F_X11_match_172
          rw [if_pos (show nI 0 ≤ 0 by decide), if_neg (nI_nle (by omega) (by omega)), if_pos (show nI 0 ≤ 0 by decide), hv, fin]
          exact rec2
        | succ j =>
          have hbl := bd (i + 1) j (by omega) (by omega)
          have hbd := bd i j (by omega) (by omega)
          have hbc := cs_le now (r1.reverse.getD i 0) (r2.reverse.getD j 0)
          have ei2 : nI (9 * (i + 1) + (j + 1)) - 1 = nI (9 * (i + 1) + j) := by rw [show 9 * (i + 1) + (j + 1) = (9 * (i + 1) + j) + 1 by omega, nI_pred]
          have ei3 : nI (9 * i + (j + 1)) - 1 = nI (9 * i + j) := by rw [show 9 * i + (j + 1) = (9 * i + j) + 1 by omega, nI_pred]
          have ef1 : nI (384 + 8 * (6 * m + t)) + nI (i + 1) - 1 = nI (384 + 8 * (6 * m + t) + i) := by rw [nI_add, show 384 + 8 * (6 * m + t) + (i + 1) = (384 + 8 * (6 * m + t) + i) + 1 by omega, nI_pred]
          have ef2 : nI (384 + 8 * (6 * m + u)) + nI (j + 1) - 1 = nI (384 + 8 * (6 * m + u) + j) := by rw [nI_add, show 384 + 8 * (6 * m + u) + (j + 1) = (384 + 8 * (6 * m + u) + j) + 1 by omega, nI_pred]
          have hx1 : now (384 + 8 * (6 * m + t) + i) = nI (r1.reverse.getD i 0) := a1 i (by rw [List.length_reverse]; omega)
          have hx2 : now (384 + 8 * (6 * m + u) + j) = nI (r2.reverse.getD j 0) := a2 j (by rw [List.length_reverse]; omega)
          have hv : min (min (min 1000000 (DD g (cM now r1 r2) i (j + 1) + g)) (DD g (cM now r1 r2) (i + 1) j + g)) (DD g (cM now r1 r2) i j + cs now (r1.reverse.getD i 0) (r2.reverse.getD j 0)) = DD g (cM now r1 r2) (i + 1) (j + 1) := by
            rw [DD_ss, Nat.min_eq_right (show DD g (cM now r1 r2) i (j + 1) + g ≤ 1000000 by omega), Nat.add_min_add_right]
            rfl
          have hm1 : min 1000000 (DD g (cM now r1 r2) i (j + 1) + g) ≤ 1000000 := Nat.min_le_left _ _
          have hm2 : min (min 1000000 (DD g (cM now r1 r2) i (j + 1) + g)) (DD g (cM now r1 r2) (i + 1) j + g) ≤ 1000000 := Nat.le_trans (Nat.min_le_left _ _) hm1
          unfold F_X11_match_172
          rw [if_neg (nI_nle (by omega) (by omega)), nI_add, ei2, ck_ok rfl (show 9 * (i + 1) + j < 81 by omega) (by decide), ck_lit (i := 6) (n := 1600) (by decide), nI_clamp (n := 9 * (i + 1) + j) (by omega), h2 j (by omega), nI_add, ls_n (by omega) (by omega), b1_s, if_neg (nI_nle (by omega) (by omega)), if_neg (nI_nle (by omega) (by omega)), efm, b1_s, ef1, ck_ok rfl (show 384 + 8 * (6 * m + t) + i < 1600 by omega) (by decide), efm, b1_s, ef2, ck_ok rfl (show 384 + 8 * (6 * m + u) + j < 1600 by omega) (by decide), nI_clamp (n := 384 + 8 * (6 * m + t) + i) (by omega), nI_clamp (n := 384 + 8 * (6 * m + u) + j) (by omega), hx1, hx2, m_costOf h8 hS (getR d1 (by omega)) (getR d2 (by omega)), b1_s, e9, e9i, nI_add, ei3, ck_ok rfl (show 9 * i + j < 81 by omega) (by decide), nI_clamp (n := 9 * i + j) (by omega), h1 i j (by omega) (by omega), nI_add, ls_n (by omega) (by omega), b1_s, hv, fin]
          exact rec2
theorem m_66L (h8 : ns ≤ 8) (hS : SN now ns Sk Sn Sr Sy) (hg : g ≤ 99) (h6 : now 6 = nI g) (d1 : dn ns r1) (d2 : dn ns r2) (l1 : r1.length ≤ 8) (l2 : r2.length ≤ 8) {m t u : Nat} (hm : m < 8) (ht : t < 6) (hu : u < 6) (a1 : arr (fun i => now (384 + 8 * (6 * m + t) + i)) r1.reverse) (a2 : arr (fun i => now (384 + 8 * (6 * m + u) + i)) r2.reverse) (fi : Int32) (fuel : Nat) :
    ∀ (i : Nat) (su : Nat → Int32), i ≤ r1.length + 1 → r1.length + 1 - i < fuel → (∀ a b, a < i → b ≤ r2.length → su (9 * a + b) = nI (DD g (cM now r1 r2) a b)) → ∃ su2, F_X11_match_66L (nI m) (nI t) (nI u) (nI r1.length) (nI r2.length) fi now fuel (nI i) su = some (nI (DD g (cM now r1 r2) r1.length r2.length), fi, su2) := by
  induction fuel with
  | zero => intro i su _ h; exact absurd h (Nat.not_lt_zero _)
  | succ fuel ih =>
    intro i su hi hf h1
    have e0 : F_X11_match_66L (nI m) (nI t) (nI u) (nI r1.length) (nI r2.length) fi now (fuel + 1) (nI i) su = F_X11_match_66 (F_X11_match_66L (nI m) (nI t) (nI u) (nI r1.length) (nI r2.length) fi now fuel) (nI m) (nI t) (nI u) (nI r1.length) (nI r2.length) (nI i) fi now su := rfl
    rw [e0]
    unfold F_X11_match_66
    by_cases c : i = r1.length + 1
    · have e9 : (9 : Int32) * nI r1.length = nI (9 * r1.length) := pk_mul 9 _
      rw [if_pos (nI_lt (by omega) (by omega)), e9, nI_add, ck_ok rfl (show 9 * r1.length + r2.length < 81 by omega) (by decide), nI_clamp (n := 9 * r1.length + r2.length) (by omega), h1 r1.length r2.length (by omega) (Nat.le_refl _)]
      exact ⟨su, rfl⟩
    · obtain ⟨su2, q1, q2⟩ := m_76L (F_X11_match_66L (nI m) (nI t) (nI u) (nI r1.length) (nI r2.length) fi now fuel) h8 hS hg h6 d1 d2 l1 l2 hm ht hu a1 a2 fi (show i ≤ r1.length by omega) fu_ 0 su (Nat.zero_le _) (by unfold fu_; omega) h1 (fun b h => absurd h (Nat.not_lt_zero b))
      rw [if_neg (nI_nlt (by omega) (by omega)), show (0 : Int32) = nI 0 from rfl, q1]
      exact ih (i + 1) su2 (by omega) (by omega) q2
end ML
set_option maxHeartbeats 1000000 in
theorem sim_match : Sim_match Rel := by
  intro wc ak fi kwd kou kga klc klt klw kLc kLf kLh kLi kLk kLK kLN kLY kMc kMf kSc kSr kSk kSn kSy kTc kTo kTO kTp wd ou ga lc lt lw Lc Lf Lh Li Lk LK LN LY Mc Mf Sc Sr Sk Sn Sy Tc To TO Tp wt f_costs isK wts mfi now mkept mwt m_sums z0 z1 z2 hR
  obtain ⟨hW, hK, hF, hS⟩ := hR
  subst hF
  have hS0 := hS
  obtain ⟨ns, nl, nt, nm, hC, hSn, hL, hT, hM, ⟨r, hw⟩, hO, hLt, hG⟩ := hS
  obtain ⟨n0, n1, n2, n3, rfl, rfl, rfl, rfl, bb0, bb1, bb2, bb3⟩ := hC
  rcases ix_c z0 (n := nm) (by omega) with h | ⟨m, hm, rfl⟩
  · iterate 5 apply Exists.intro
    refine ⟨?e1, ?e2, hW, hK, ?e5, ?e3⟩
    case e1 => unfold F_X10_match F_X10_match_0 F_X10_match_42; rw [has2, has_no h]; rfl
    case e2 => unfold F_X11_match F_X11_match_0 F_X11_match_24; rw [is3_no n3 (by omega) h]; rfl
    case e5 => rfl
    case e3 => exact hS0
  · rcases ix_c z1 (n := nt) (by omega) with h | ⟨t, ht, rfl⟩
    · iterate 5 apply Exists.intro
      refine ⟨?e1, ?e2, hW, hK, ?e5, ?e3⟩
      case e1 => unfold F_X10_match F_X10_match_0 F_X10_match_42; rw [has2, has_yes (by omega) hm, b1_s, if_neg (by decide), has7, has_no h]; rfl
      case e2 => unfold F_X11_match F_X11_match_0 F_X11_match_24; rw [is3_yes n3 (by omega) hm, b1_s, if_neg (by decide), is2_no n2 (by omega) h]; rfl
      case e5 => rfl
      case e3 => exact hS0
    · rcases ix_c z2 (n := nt) (by omega) with h | ⟨u, hu, rfl⟩
      · iterate 5 apply Exists.intro
        refine ⟨?e1, ?e2, hW, hK, ?e5, ?e3⟩
        case e1 => unfold F_X10_match F_X10_match_0 F_X10_match_42; rw [has2, has_yes (by omega) hm, b1_s, if_neg (by decide), has7, has_yes (by omega) ht, b1_s, if_neg (by decide), has7, has_no h]; rfl
        case e2 => unfold F_X11_match F_X11_match_0 F_X11_match_24; rw [is3_yes n3 (by omega) hm, b1_s, if_neg (by decide), is2_yes n2 (by omega) ht, b1_s, if_neg (by decide), is2_no n2 (by omega) h]; rfl
        case e5 => rfl
        case e3 => exact hS0
      · have k10 : F_X10_match (nI m) (nI t) (nI u) fi f_costs ga (nI nm) Mf Sn Sy (nI nt) = if Mf m t = 0 then F_X10_match_94 fi f_costs else if Mf m u = 0 then F_X10_match_94 fi f_costs else bn2_ (F_X0_leastCost (Mf m t) (Mf m u) f_costs ga Sn Sy) (fun y23 o22 => some (y23, fi, o22)) := by
          unfold F_X10_match F_X10_match_0
          rw [has2, has_yes (by omega) hm, b1_s, if_neg (by decide), has7, has_yes (by omega) ht, b1_s, if_neg (by decide), has7, has_yes (by omega) hu, b1_s, if_neg (by decide), ck_ok rfl (show m < 8 by omega) (by decide), ck_ok rfl (show t < 6 by omega) (by decide), lt_e, ck_ok rfl (show m < 8 by omega) (by decide), ck_ok rfl (show u < 6 by omega) (by decide), lt_e, nI_clamp (n := m) (by omega), nI_clamp (n := t) (by omega), nI_clamp (n := u) (by omega)]
        have k11 : F_X11_match (nI m) (nI t) (nI u) fi now m_sums = bn1_ (F_X11_formSize (nI m) (nI t) now) (fun y39 => bn1_ (F_X11_formSize (nI m) (nI u) now) (fun y41 => if y39 < 0 then F_X11_match_56 fi m_sums else if 0 ≤ y41 then F_X11_match_66L (nI m) (nI t) (nI u) y39 y41 fi now fu_ 0 m_sums else F_X11_match_56 fi m_sums)) := by
          unfold F_X11_match F_X11_match_0
          rw [is3_yes n3 (by omega) hm, b1_s, if_neg (by decide), is2_yes n2 (by omega) ht, b1_s, if_neg (by decide), is2_yes n2 (by omega) hu, b1_s, if_neg (by decide)]
        rcases m_formSize bb3 bb2 bb0 hM hm ht with ⟨p1, p2, p3⟩ | ⟨q, q1, q2, q3, q4, q5, q6⟩
        · have hx : ∃ y, F_X11_formSize (nI m) (nI u) now = some y := by
            rcases m_formSize bb3 bb2 bb0 hM hm hu with ⟨s1, s2, s3⟩ | ⟨w, w1, w2, w3, w4, w5, w6⟩
            · exact ⟨_, s3⟩
            · exact ⟨_, w5⟩
          obtain ⟨y, hy⟩ := hx
          iterate 5 apply Exists.intro
          refine ⟨?e1, ?e2, hW, hK, ?e5, ?e3⟩
          case e1 => rw [k10, if_pos p1]; rfl
          case e2 => rw [k11, p3, b1_s, hy, b1_s, if_pos (by decide)]; rfl
          case e5 => rfl
          case e3 => exact hS0
        · have hq0 : ¬ Mf m t = 0 := by rw [q3]; exact wl_ne0 (dn_dg q1 bb0) (by omega)
          rcases m_formSize bb3 bb2 bb0 hM hm hu with ⟨s1, s2, s3⟩ | ⟨w, w1, w2, w3, w4, w5, w6⟩
          · iterate 5 apply Exists.intro
            refine ⟨?e1, ?e2, hW, hK, ?e5, ?e3⟩
            case e1 => rw [k10, if_neg hq0, if_pos s1]; rfl
            case e2 => rw [k11, q5, b1_s, s3, b1_s, if_neg (nI_pos (by omega)), if_neg (by decide)]; rfl
            case e5 => rfl
            case e3 => exact hS0
          · have hw0 : ¬ Mf m u = 0 := by rw [w3]; exact wl_ne0 (dn_dg w1 bb0) (by omega)
            obtain ⟨g, g1, g2, g3⟩ := hG
            obtain ⟨co2, x1⟩ := c_least bb0 hSn g1 q1 w1 q2 w2 f_costs
            obtain ⟨su2, x2⟩ := m_66L bb0 hSn g1 g3 q1 w1 q2 w2 (show m < 8 by omega) (show t < 6 by omega) (show u < 6 by omega) q6 w6 fi fu_ 0 m_sums (Nat.zero_le _) (by unfold fu_; omega) (fun a b h => absurd h (Nat.not_lt_zero a))
            iterate 5 apply Exists.intro
            refine ⟨?e1, ?e2, hW, hK, ?e5, ?e3⟩
            case e1 => rw [k10, if_neg hq0, if_neg hw0, q3, w3, g2, x1]; rfl
            case e2 => rw [k11, q5, b1_s, w5, b1_s, if_neg (nI_pos (by omega)), if_pos (nI_pos' (by omega))]; exact x2
            case e5 => rfl
            case e3 => exact hS0
