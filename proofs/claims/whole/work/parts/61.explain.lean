/-! explain -/
def exB (Mf : Nat → Nat → Int64) (now : Nat → Int32) (n m : Nat) : Nat → Bool
  | 0 => false
  | j + 1 => exB Mf now n m j || rtB Mf now m (Wd n j)
def exN (Mf : Nat → Nat → Int64) (now : Nat → Int32) (ns nm most : Nat) : Nat := fb_ct (fun m => exB Mf now ns m (hm ns most)) nm
theorem exB_mono {Mf : Nat → Nat → Int64} {now : Nat → Int32} {n m : Nat} : ∀ {j k : Nat}, j ≤ k → exB Mf now n m j = true → exB Mf now n m k = true := by
  intro j k
  induction k with
  | zero => intro h1 h2; rw [show j = 0 by omega] at h2; exact h2
  | succ k ih =>
    intro h1 h2
    by_cases c : j = k + 1
    · rw [← c]; exact h2
    · show (exB Mf now n m k || rtB Mf now m (Wd n k)) = true
      rw [ih (by omega) h2]; rfl
theorem exB_form {Mf : Nat → Nat → Int64} {now : Nat → Int32} {n m : Nat} : ∀ {j : Nat}, exB Mf now n m j = true → 0 < fb_ct (hasF Mf m) 6 := by
  intro j
  induction j with
  | zero => intro h; cases h
  | succ j ih =>
    intro h
    have h' : (exB Mf now n m j || rtB Mf now m (Wd n j)) = true := h
    cases hx : exB Mf now n m j with
    | true => exact ih hx
    | false =>
      rw [hx, Bool.false_or] at h'
      unfold rtB at h'
      simp only [Bool.and_eq_true, decide_eq_true_eq] at h'
      exact h'.1
theorem bc8 : ∀ b, b < 256 → F_J6_bitCount_0f7a4 (nI b) = some (nI (fb_ct (fun k => b.testBit k) 8)) := by decide +kernel
section EX
variable {now : Nat → Int32} {ns nl nt nm most : Nat} {Lf Lh Li Lk Tp TO : Nat → Int32} {To : Nat → Nat → Int32} {Mf : Nat → Nat → Int64}
theorem c_withL (h8 : nm ≤ 8) (Mf : Nat → Nat → Int64) (fuel : Nat) : ∀ (i b : Nat), i ≤ nm → nm - i < fuel → b < 2 ^ i → (∀ m, m < i → b.testBit m = decide (0 < fb_ct (hasF Mf m) 6)) → ∃ b', b' < 2 ^ nm ∧ F_X2_withForms_4L (nI nm) Mf fuel (nI b) (nI i) = some (nI b') ∧ ∀ m, m < nm → b'.testBit m = decide (0 < fb_ct (hasF Mf m) 6) := by
  induction fuel with
  | zero => intro i b _ h; exact absurd h (Nat.not_lt_zero _)
  | succ fuel ih =>
    intro i b hi hf hb hq
    have e0 : F_X2_withForms_4L (nI nm) Mf (fuel + 1) (nI b) (nI i) = F_X2_withForms_4 (F_X2_withForms_4L (nI nm) Mf fuel) (nI b) (nI i) (nI nm) Mf := rfl
    rw [e0]
    unfold F_X2_withForms_4 F_X2_withForms_26
    by_cases c : i = nm
    · subst c
      rw [if_pos (nI_le (Nat.le_refl _) (by omega))]
      exact ⟨b, hb, rfl, hq⟩
    · have hb1 := fb_ct_le (hasF Mf i) 6
      have hp2 : 2 ^ (i + 1) = 2 ^ i + 2 ^ i := by rw [Nat.pow_succ]; omega
      rw [if_neg (nI_ge (by omega) (by omega)), c_countForms (by omega), b1_s]
      by_cases c2 : 0 < fb_ct (hasF Mf i) 6
      · rw [if_neg (nI_nle c2 (by omega)), lt_e, lt_e, nI_1, sh1 (by omega), fa_or]
        refine ih (i + 1) (b ||| 2 ^ i) (by omega) (by omega) (Nat.or_lt_two_pow (by omega) (Nat.pow_lt_pow_right (by decide) (by omega))) (fun m hm => ?_)
        rw [fb_bit_set]
        by_cases cq : m = i
        · subst cq; simp [c2]
        · rw [hq m (by omega)]; simp [cq]
      · rw [if_pos (by rw [show fb_ct (hasF Mf i) 6 = 0 by omega]; decide), lt_e, nI_1]
        refine ih (i + 1) b (by omega) (by omega) (by omega) (fun m hm => ?_)
        by_cases cq : m = i
        · subst cq; rw [decide_eq_false c2]; exact tb_lt hb (Nat.le_refl _)
        · exact hq m (by omega)
theorem c_exM (K : Int32 → Int64 → Int32 → (Nat → Int64) → Int32 → Option (Int32 × (Nat → Int64) × Int32)) (x2 x5 t1 : Int32) (h8 : nm ≤ 8) (n8 : ns ≤ 8) (hM : MN now ns nt nm Mf) {w : List Nat} (hwd : dg w) (hwl : w.length ≤ 10) {j : Nat} {goals : Nat → Int64} (hg : ∀ s, s < nt → goals s = wo (ldA now (rows now s) w)) (e : Nat → Bool) (fuel : Nat) :
    ∀ (i b : Nat), i ≤ nm → nm - i < fuel → b < 2 ^ nm → (∀ m, m < i → b.testBit m = (e m || rtB Mf now m w)) → (∀ m, i ≤ m → m < nm → b.testBit m = e m) → ∃ b', b' < 2 ^ nm ∧ F_X0_countExplained_60L K x2 (nI ns) x5 (wl w) (nI j) goals t1 Lf Lh Li Lk (nI nm) Mf (nI nt) To TO Tp fuel (nI b) (nI i) = K (nI b') (wl (nr ns w)) (nI (j + 1)) goals t1 ∧ ∀ m, m < nm → b'.testBit m = (e m || rtB Mf now m w) := by
  induction fuel with
  | zero => intro i b _ h; exact absurd h (Nat.not_lt_zero _)
  | succ fuel ih =>
    intro i b hi hf hb hq hr
    have e0 : F_X0_countExplained_60L K x2 (nI ns) x5 (wl w) (nI j) goals t1 Lf Lh Li Lk (nI nm) Mf (nI nt) To TO Tp (fuel + 1) (nI b) (nI i) = F_X0_countExplained_60 K (F_X0_countExplained_60L K x2 (nI ns) x5 (wl w) (nI j) goals t1 Lf Lh Li Lk (nI nm) Mf (nI nt) To TO Tp fuel) x2 (nI b) (nI ns) x5 (wl w) (nI j) (nI i) goals t1 Lf Lh Li Lk (nI nm) Mf (nI nt) To TO Tp := rfl
    rw [e0]
    unfold F_X0_countExplained_60 F_X0_countExplained_101
    by_cases c : i = nm
    · subst c
      rw [if_pos (nI_le (Nat.le_refl _) (by omega)), w_next n8 hwd hwl, b1_s, lt_e, nI_1]
      exact ⟨b, hb, rfl, hq⟩
    · have hi2 : i < nm := by omega
      rw [if_neg (nI_ge hi2 (by omega)), c_rooted h8 hM hi2 hg, b1_s]
      cases hrt : rtB Mf now i w with
      | false =>
        rw [if_pos (show b2 false = 0 from rfl), lt_e, nI_1]
        refine ih (i + 1) b (by omega) (by omega) hb (fun m hm => ?_) (fun m h1 h2 => hr m (by omega) h2)
        by_cases cq : m = i
        · subst cq; rw [hrt, Bool.or_false]; exact hr m (Nat.le_refl _) hi2
        · exact hq m (by omega)
      | true =>
        rw [if_neg (show ¬ b2 true = 0 by decide), lt_e, lt_e, nI_1, sh1 (by omega), fa_or]
        refine ih (i + 1) (b ||| 2 ^ i) (by omega) (by omega) (Nat.or_lt_two_pow hb (Nat.pow_lt_pow_right (by decide) hi2)) (fun m hm => ?_) (fun m h1 h2 => ?_)
        · rw [fb_bit_set]
          by_cases cq : m = i
          · subst cq; rw [hrt]; simp
          · rw [hq m (by omega)]; simp [cq]
        · rw [fb_bit_set, hr m (by omega) h2]
          simp [show ¬ m = i by omega]
theorem c_exL (hI : LI now ns nl) (hC : LC now ns nl Lf Lh Li Lk) (hT : TT now nl nt To TO Tp) (hM : MN now ns nt nm Mf) (h8 : nm ≤ 8) (h4 : most ≤ 4) {wb : Nat} (hwb : wb < 2 ^ nm) (hw2 : ∀ m, m < nm → wb.testBit m = decide (0 < fb_ct (hasF Mf m) 6)) (fuel : Nat) :
    ∀ (j b : Nat) (goals : Nat → Int64) (t1 : Int32), j ≤ hm ns most → hm ns most - j < fuel → b < 2 ^ nm → (∀ m, m < nm → b.testBit m = exB Mf now ns m j) → ∃ goals' t2, F_X0_countExplained_39L (nI wb) (nI ns) (nI (hm ns most)) Lf Lh Li Lk (nI nm) Mf (nI nt) To TO Tp fuel (nI b) (wl (Wd ns j)) (nI j) goals t1 = some (nI (exN Mf now ns nm most), goals', t2) := by
  have hK := hm_b (n := ns) (m := most) hI.2.1 h4
  have h256 : 2 ^ nm ≤ 2 ^ 8 := Nat.pow_le_pow_right (by decide) h8
  induction fuel with
  | zero => intro j b goals t1 _ h; exact absurd h (Nat.not_lt_zero _)
  | succ fuel ih =>
    intro j b goals t1 hj hf hb hq
    have e0 : F_X0_countExplained_39L (nI wb) (nI ns) (nI (hm ns most)) Lf Lh Li Lk (nI nm) Mf (nI nt) To TO Tp (fuel + 1) (nI b) (wl (Wd ns j)) (nI j) goals t1 = F_X0_countExplained_39 (F_X0_countExplained_39L (nI wb) (nI ns) (nI (hm ns most)) Lf Lh Li Lk (nI nm) Mf (nI nt) To TO Tp fuel) (nI wb) (nI b) (nI ns) (nI (hm ns most)) (wl (Wd ns j)) (nI j) goals t1 Lf Lh Li Lk (nI nm) Mf (nI nt) To TO Tp := rfl
    rw [e0]
    have fin : (∀ m, m < nm → exB Mf now ns m j = exB Mf now ns m (hm ns most)) → F_X0_countExplained_122 (nI b) goals t1 = some (nI (exN Mf now ns nm most), goals, t1) := by
      intro hh
      unfold F_X0_countExplained_122
      have e1 : fb_ct (fun k => b.testBit k) 8 = exN Mf now ns nm most := by
        have : fb_ct (fun k => b.testBit k) 8 = fb_ct (fun k => b.testBit k) nm := fb_ct_ext 8 h8 (fun k h1 h2 => tb_lt hb h1)
        rw [this]
        refine fb_ct_cong (fun m hm => ?_)
        show b.testBit m = _
        rw [hq m hm, hh m hm]
      rw [bc8 b (by omega), b1_s, e1]
    unfold F_X0_countExplained_39
    by_cases c : j = hm ns most
    · rw [if_pos (by rw [c]; exact nI_le (Nat.le_refl _) (by omega))]
      exact ⟨_, _, fin (fun m hm => by rw [c])⟩
    · have hj2 : j < hm ns most := by omega
      rw [if_neg (nI_ge hj2 (by omega))]
      by_cases cw : b = wb
      · rw [if_pos (by rw [cw])]
        refine ⟨_, _, fin (fun m hm9 => ?_)⟩
        cases hx : exB Mf now ns m j with
        | true => exact (exB_mono hj hx).symm
        | false =>
          cases hy : exB Mf now ns m (hm ns most) with
          | false => rfl
          | true =>
            exfalso
            have h1 := exB_form hy
            have h2 := hw2 m hm9
            rw [decide_eq_true h1, ← cw, hq m hm9, hx] at h2
            cases h2
      · obtain ⟨hd, hl4⟩ := Wd_ok hj2
        have hl16 := Wd_16 h4 hj2
        obtain ⟨goals2, t2, c1, c2⟩ := c_leadByAll hI hC hT hd hl16 goals t1
        obtain ⟨b', q1, q2, q3⟩ := c_exM (F_X0_countExplained_39L (nI wb) (nI ns) (nI (hm ns most)) Lf Lh Li Lk (nI nm) Mf (nI nt) To TO Tp fuel) (nI wb) (nI (hm ns most)) t2 (Lf := Lf) (Lh := Lh) (Li := Li) (Lk := Lk) (To := To) (TO := TO) (Tp := Tp) h8 hI.2.1 hM (dn_dg hd hI.2.1) (by omega) (j := j) c2 (fun m => exB Mf now ns m j) fu_ 0 b (Nat.zero_le _) (by unfold fu_; omega) hb (fun m h => absurd h (Nat.not_lt_zero m)) (fun m _ h => hq m h)
        rw [if_neg (fun q => cw ((nI_eq (by omega) (by omega)).mp q)), c1, b2_s, show (0 : Int32) = nI 0 from rfl, q2]
        exact ih (j + 1) b' goals2 t2 (by omega) (by omega) q1 q3
theorem c_exp (hI : LI now ns nl) (hC : LC now ns nl Lf Lh Li Lk) (hT : TT now nl nt To TO Tp) (hM : MN now ns nt nm Mf) (h8 : nm ≤ 8) (h4 : most ≤ 4) (goals : Nat → Int64) (t1 : Int32) : ∃ goals' t2, F_X0_countExplained (nI most) goals t1 Lf Lh Li Lk (nI nm) Mf (nI ns) (nI nt) To TO Tp = some (nI (exN Mf now ns nm most), goals', t2) := by
  have hK := hm_b (n := ns) (m := most) hI.2.1 h4
  obtain ⟨wb, w1, w2, w3⟩ := c_withL h8 Mf fu_ 0 0 (Nat.zero_le _) (by unfold fu_; omega) (by decide) (fun m h => absurd h (Nat.not_lt_zero m))
  obtain ⟨goals', t2, l1⟩ := c_exL hI hC hT hM h8 h4 w1 w3 fu_ 0 0 goals t1 (Nat.zero_le _) (by unfold fu_; omega) (Nat.two_pow_pos nm) (fun m hm => by rw [Nat.zero_testBit]; rfl)
  refine ⟨goals', t2, ?_⟩
  unfold F_X0_countExplained F_X0_countExplained_0
  have hw : F_X2_withForms (nI nm) Mf = some (nI wb) := w2
  rw [hw, b1_s, w_how hI.2.1 h4, b1_s]
  exact l1
/-! the reference -/
theorem m_exM (K : Int32 → Int32 → Int32 → Int32 → Int32 → Int32 → (Nat → Int32) → (Nat → Int64) → (Nat → Int32) → (Nat → Int32) → (Nat → Int32) → (Nat → Int32) → (Nat → Int32) → Option (Int32 × Int32 × Int32 × Int32 × Int32 × Int32 × (Nat → Int32) × (Nat → Int64) × (Nat → Int32) × (Nat → Int32) × (Nat → Int32) × (Nat → Int32) × (Nat → Int32))) (x1 mn sz mk ch ss : Int32) (line made row some1 word : Nat → Int32) (h8 : nm ≤ 8) (h6 : nt ≤ 6) (n8 : ns ≤ 8) (n2 : now 2 = nI nt) (n3 : now 3 = nI nm) (hM : MN now ns nt nm Mf) {w : List Nat} {led : Nat → Int64} (hg : ∀ s, s < nt → led s = co (ldA now (rows now s) w)) (hok : ∀ s, s < nt → okW (ldA now (rows now s) w)) (e : Nat → Bool) (fuel : Nat) :
    ∀ (i : Nat) (isE : Nat → Int32), i ≤ nm → nm - i < fuel → (∀ m, m < i → isE m = b2 (e m || rtB Mf now m w)) → (∀ m, i ≤ m → m < nm → isE m = b2 (e m)) → ∃ isE', F_X11_explained_37L K x1 mn sz mk ch led line made now row word fuel (nI i) ss isE some1 = bn3_ (F_X11_nextSome x1 ss now some1) (fun y o8 o9 => K y mn sz mk ch o8 isE' led line made row o9 word) ∧ ∀ m, m < nm → isE' m = b2 (e m || rtB Mf now m w) := by
  have vn1 : vp_nar .boolean (1 : Int32) = 1 := by decide
  have vn0 : vp_nar .boolean (0 : Int32) = 0 := by decide
  induction fuel with
  | zero => intro i isE _ h; exact absurd h (Nat.not_lt_zero _)
  | succ fuel ih =>
    intro i isE hi hf hq hr
    have e0 : F_X11_explained_37L K x1 mn sz mk ch led line made now row word (fuel + 1) (nI i) ss isE some1 = F_X11_explained_37 K (F_X11_explained_37L K x1 mn sz mk ch led line made now row word fuel) x1 (nI i) mn sz mk ch ss isE led line made now row some1 word := rfl
    rw [e0]
    unfold F_X11_explained_37 F_X11_explained_69 F_X11_explained_74
    rw [ck_lit (i := 3) (n := 1600) (by decide), show (3 : Int32).toNatClampNeg = 3 by decide, n3]
    by_cases c : i = nm
    · subst c
      rw [if_pos (nI_le (Nat.le_refl _) (by omega))]
      exact ⟨isE, rfl, hq⟩
    · have hi2 : i < nm := by omega
      have hrt := m_root h8 h6 n8 n2 hM hi2 hg hok
      have step : ∀ v : Int32, v = b2 (e i || rtB Mf now i w) → ∃ isE', F_X11_explained_37L K x1 mn sz mk ch led line made now row word fuel (nI (i + 1)) ss (upd isE i v) some1 = bn3_ (F_X11_nextSome x1 ss now some1) (fun y o8 o9 => K y mn sz mk ch o8 isE' led line made row o9 word) ∧ ∀ m, m < nm → isE' m = b2 (e m || rtB Mf now m w) := by
        intro v hv
        refine ih (i + 1) _ (by omega) (by omega) (fun m hm => ?_) (fun m h1 h2 => ?_)
        · by_cases cq : m = i
          · rw [cq, pk_us]; exact hv
          · rw [pk_un cq]; exact hq m (by omega)
        · rw [pk_un (by omega)]; exact hr m (by omega) h2
      rw [if_neg (nI_ge hi2 (by omega)), ck_ok rfl (show i < 8 by omega) (by decide), nI_clamp (n := i) (by omega), hr i (Nat.le_refl _) hi2]
      cases he : e i with
      | true =>
        rw [if_neg (show ¬ b2 true = 0 by decide), ck_ok rfl (show i < 8 by omega) (by decide), lt_e, lt_e, nI_1, vn1]
        exact step 1 (by rw [he]; rfl)
      | false =>
        rw [if_pos (show b2 false = 0 from rfl), hrt, b1_s]
        cases hx : rtB Mf now i w with
        | false =>
          rw [if_pos (show b2 false = 0 from rfl), ck_ok rfl (show i < 8 by omega) (by decide), lt_e, lt_e, nI_1, vn0]
          exact step 0 (by rw [he, hx]; rfl)
        | true =>
          rw [if_neg (show ¬ b2 true = 0 by decide), ck_ok rfl (show i < 8 by omega) (by decide), lt_e, lt_e, nI_1, vn1]
          exact step 1 (by rw [he, hx]; rfl)
theorem m_exC (mn sz mk ch ss : Int32) (isE : Nat → Int32) (led : Nat → Int64) (line made row some1 word : Nat → Int32) (h8 : nm ≤ 8) (n3 : now 3 = nI nm) (e : Nat → Bool) (he : ∀ m, m < nm → isE m = b2 (e m)) (fuel : Nat) : ∀ i, i ≤ nm → nm - i < fuel → F_X11_explained_95L mn sz mk ch ss isE led line made now row some1 word fuel (nI (fb_ct e i)) (nI i) = some (nI (fb_ct e nm), mn, sz, mk, ch, ss, isE, led, line, made, row, some1, word) := by
  induction fuel with
  | zero => intro i _ h; exact absurd h (Nat.not_lt_zero _)
  | succ fuel ih =>
    intro i hi hf
    have e0 : F_X11_explained_95L mn sz mk ch ss isE led line made now row some1 word (fuel + 1) (nI (fb_ct e i)) (nI i) = F_X11_explained_95 (F_X11_explained_95L mn sz mk ch ss isE led line made now row some1 word fuel) (nI (fb_ct e i)) (nI i) mn sz mk ch ss isE led line made now row some1 word := rfl
    rw [e0]
    unfold F_X11_explained_95 F_X11_explained_122
    rw [ck_lit (i := 3) (n := 1600) (by decide), show (3 : Int32).toNatClampNeg = 3 by decide, n3]
    by_cases c : i = nm
    · subst c
      rw [if_pos (nI_le (Nat.le_refl _) (by omega))]
    · have := ih (i + 1) (by omega) (by omega)
      rw [fb_ct_succ] at this
      have ez : nI (fb_ct e i) + 0 = nI (fb_ct e i + 0) := nI_add _ 0
      rw [if_neg (nI_ge (by omega) (by omega)), ck_ok rfl (show i < 8 by omega) (by decide), nI_clamp (n := i) (by omega), he i (by omega), lt_e, lt_e, lt_e, lt_e, nI_1, nI_1, ez]
      cases hx : e i with
      | false => rw [hx] at this; rw [if_pos (show b2 false = 0 from rfl)]; exact this
      | true => rw [hx] at this; rw [if_neg (show ¬ b2 true = 0 by decide)]; exact this
theorem m_exL (hI : LI now ns nl) (hT : TI now nt nl) (hM : MN now ns nt nm Mf) (h8 : nm ≤ 8) (h4 : most ≤ 4) (n0 : now 0 = nI ns) (n2 : now 2 = nI nt) (n3 : now 3 = nI nm) (fuel : Nat) :
    ∀ (j : Nat) (mn sz mk ch : Int32) (isE : Nat → Int32) (led : Nat → Int64) (line made row some1 word : Nat → Int32), j < hm ns most → hm ns most - j + 1 < fuel → arr some1 (Wd ns j).reverse → (∀ m, m < nm → isE m = b2 (exB Mf now ns m j)) →
    ∃ mn2 sz2 mk2 ch2 ss2 isE2 led2 line2 made2 row2 some2 word2, F_X11_explained_27L (nI most) now fuel 1 mn sz mk ch (nI (Wd ns j).length) isE led line made row some1 word = some (nI (exN Mf now ns nm most), mn2, sz2, mk2, ch2, ss2, isE2, led2, line2, made2, row2, some2, word2) := by
  have hK := hm_b (n := ns) (m := most) hI.2.1 h4
  induction fuel with
  | zero => intro j mn sz mk ch isE led line made row some1 word _ h; exact absurd h (Nat.not_lt_zero _)
  | succ fuel ih =>
    intro j mn sz mk ch isE led line made row some1 word hj hf ha he
    have e0 : F_X11_explained_27L (nI most) now (fuel + 1) 1 mn sz mk ch (nI (Wd ns j).length) isE led line made row some1 word = F_X11_explained_27 (F_X11_explained_27L (nI most) now fuel) (nI most) 1 mn sz mk ch (nI (Wd ns j).length) isE led line made now row some1 word := rfl
    rw [e0]
    obtain ⟨hd, hl4⟩ := Wd_ok hj
    have hl16 := Wd_16 h4 hj
    obtain ⟨mn2, sz2, mk2, ch2, led2, line2, made2, row2, word2, m1, m2⟩ := m_leadAll hI hT n2 hd (show (Wd ns j).length ≤ 4 by omega) ha mn sz mk ch led line made row word
    obtain ⟨isE2, q1, q2⟩ := m_exM (F_X11_explained_27L (nI most) now fuel) (nI most) mn2 sz2 mk2 ch2 (nI (Wd ns j).length) line2 made2 row2 some1 word2 h8 hT.1 hI.2.1 n2 n3 hM m2 (fun s hs' => ldA_ok hI (rows_dn hT s hs') hd hl16) (fun m => exB Mf now ns m j) fu_ 0 isE (Nat.zero_le _) (by unfold fu_; omega) (fun m h => absurd h (Nat.not_lt_zero m)) (fun m _ h => he m h)
    unfold F_X11_explained_27
    rw [if_neg ne10, m1, b9_s, show (0 : Int32) = nI 0 from rfl, q1]
    obtain ⟨y, ssz, f', x1, x2⟩ := m_next (now := now) hI.2.1 h4 n0 hj ha
    rw [x1, b3_s]
    rcases x2 with ⟨rfl, hlast⟩ | ⟨rfl, hlt, rfl, ha'⟩
    · obtain ⟨fuel, rfl⟩ : ∃ g, fuel = g + 1 := ⟨fuel - 1, by omega⟩
      have hfin := m_exC mn2 sz2 mk2 ch2 ssz isE2 led2 line2 made2 row2 f' word2 h8 n3 (fun m => exB Mf now ns m (j + 1)) q2 fu_ 0 (Nat.zero_le _) (by unfold fu_; omega)
      rw [hlast] at hfin
      refine ⟨mn2, sz2, mk2, ch2, ssz, isE2, led2, line2, made2, row2, f', word2, ?_⟩
      show F_X11_explained_27 (F_X11_explained_27L (nI most) now fuel) (nI most) 0 mn2 sz2 mk2 ch2 ssz isE2 led2 line2 made2 now row2 f' word2 = _
      unfold F_X11_explained_27
      rw [if_pos rfl]
      exact hfin
    · exact ih (j + 1) mn2 sz2 mk2 ch2 isE2 led2 line2 made2 row2 f' word2 hlt (by omega) ha' q2
theorem m_exZ (x1 mn sz mk ch : Int32) (led : Nat → Int64) (line made row some1 word : Nat → Int32) (fuel : Nat) : ∀ (i : Nat) (ss : Int32) (isE : Nat → Int32), i ≤ 8 → 8 - i < fuel → (∀ m, m < i → isE m = 0) → ∃ isE', F_X11_explained_2L x1 mn sz mk ch led line made now row some1 word fuel (nI i) ss isE = F_X11_explained_27L x1 now fu_ 1 mn sz mk ch 0 isE' led line made row some1 word ∧ ∀ m, m < 8 → isE' m = 0 := by
  have vn0 : vp_nar .boolean (0 : Int32) = 0 := by decide
  induction fuel with
  | zero => intro i ss isE _ h; exact absurd h (Nat.not_lt_zero _)
  | succ fuel ih =>
    intro i ss isE hi hf hq
    have e0 : F_X11_explained_2L x1 mn sz mk ch led line made now row some1 word (fuel + 1) (nI i) ss isE = F_X11_explained_2 (F_X11_explained_2L x1 mn sz mk ch led line made now row some1 word fuel) x1 (nI i) mn sz mk ch ss isE led line made now row some1 word := rfl
    rw [e0]
    unfold F_X11_explained_2 F_X11_beginSome F_X11_beginSome_0
    by_cases c : i = 8
    · subst c
      rw [if_pos (show (8 : Int32) ≤ nI 8 from nI_le (Nat.le_refl 8) (by omega)), lt_e, b1_s]
      exact ⟨isE, rfl, hq⟩
    · rw [if_neg (show ¬ (8 : Int32) ≤ nI i from nI_ge (a := i) (b := 8) (by omega) (by decide)), ck_ok rfl (show i < 8 by omega) (by decide), lt_e, lt_e, nI_1, nI_clamp (n := i) (by omega), vn0]
      refine ih (i + 1) ss _ (by omega) (by omega) (fun m hm => ?_)
      by_cases cq : m = i
      · rw [cq, pk_us]
      · rw [pk_un cq]; exact hq m (by omega)
theorem m_exp (hI : LI now ns nl) (hT : TI now nt nl) (hM : MN now ns nt nm Mf) (h8 : nm ≤ 8) (h4 : most ≤ 4) (n0 : now 0 = nI ns) (n2 : now 2 = nI nt) (n3 : now 3 = nI nm) (mn sz mk ch ss : Int32) (isE : Nat → Int32) (led : Nat → Int64) (line made row some1 word : Nat → Int32) : ∃ mn2 sz2 mk2 ch2 ss2 isE2 led2 line2 made2 row2 some2 word2, F_X11_explained (nI most) mn sz mk ch ss isE led line made now row some1 word = some (nI (exN Mf now ns nm most), mn2, sz2, mk2, ch2, ss2, isE2, led2, line2, made2, row2, some2, word2) := by
  have hK := hm_b (n := ns) (m := most) hI.2.1 h4
  obtain ⟨isE', q1, q2⟩ := m_exZ (now := now) (nI most) mn sz mk ch led line made row some1 word fu_ 0 ss isE (Nat.zero_le _) (by unfold fu_; omega) (fun m h => absurd h (Nat.not_lt_zero m))
  obtain ⟨mn2, sz2, mk2, ch2, ss2, isE2, led2, line2, made2, row2, some2, word2, l1⟩ := m_exL hI hT hM h8 h4 n0 n2 n3 fu_ 0 mn sz mk ch isE' led line made row some1 word (hm_pos ns most) (by unfold fu_; omega) (fun i hi => absurd hi (Nat.not_lt_zero i)) (fun m hm => q2 m (by omega))
  refine ⟨mn2, sz2, mk2, ch2, ss2, isE2, led2, line2, made2, row2, some2, word2, ?_⟩
  unfold F_X11_explained F_X11_explained_0
  exact q1.trans l1
end EX
set_option maxHeartbeats 1000000 in
theorem sim_explain : Sim_explain Rel := by
  intro wc ak fi kwd kou kga klc klt klw kLc kLf kLh kLi kLk kLK kLN kLY kMc kMf kSc kSr kSk kSn kSy kTc kTo kTO kTp wd ou ga lc lt lw Lc Lf Lh Li Lk LK LN LY Mc Mf Sc Sr Sk Sn Sy Tc To TO Tp wt f_goals tch isK wts mfi now mkept mwt m_many m_size m_makes m_changes m_someSize m_isExplained m_ledTo m_line m_made m_row m_some m_word z0 hR
  obtain ⟨hW, hK, hF, hS⟩ := hR
  subst hF
  have hS0 := hS
  obtain ⟨ns, nl, nt, nm, hC, hSn, hL, hT, hM, ⟨r, hw⟩, hO, hLt, hG⟩ := hS
  obtain ⟨n0, n1, n2, n3, rfl, rfl, rfl, rfl, bb0, bb1, bb2, bb3⟩ := hC
  rcases in_c z0 0 4 with ⟨h1, h2⟩ | ⟨h1, h2, h3⟩
  · iterate 17 apply Exists.intro
    refine ⟨?e1, ?e2, hW, hK, ?e5, ?e3⟩
    case e1 => unfold F_X10_explain F_X10_explain_0; rw [tried, h1]; rfl
    case e2 => unfold F_X11_explain F_X11_explain_0; rw [h1]; rfl
    case e5 => rfl
    case e3 => exact hS0
  · obtain ⟨most, hmost, rfl⟩ := in_n (b := 4) (m := 4) rfl (by decide) h2 h3
    obtain ⟨goals', t2, c1⟩ := c_exp hL.1 hL.2.1 hT hM bb3 hmost f_goals tch
    obtain ⟨mn2, sz2, mk2, ch2, ss2, isE2, led2, line2, made2, row2, some2, word2, d1⟩ := m_exp hL.1 hT.1 hM bb3 hmost n0 n2 n3 m_many m_size m_makes m_changes m_someSize m_isExplained m_ledTo m_line m_made m_row m_some m_word
    iterate 17 apply Exists.intro
    refine ⟨?e1, ?e2, hW, hK, ?e5, ?e3⟩
    case e1 => unfold F_X10_explain F_X10_explain_0; rw [tried, h1, b1_s, if_neg (by decide), c1]; rfl
    case e2 => unfold F_X11_explain F_X11_explain_0; rw [h1, b1_s, if_neg (by decide), d1]; rfl
    case e5 => rfl
    case e3 => exact hS0
