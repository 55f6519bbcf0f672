/-! all tongues at once -/
def okD (ns : Nat) (o : Option (List Nat)) : Prop := ∀ x, o = some x → dn ns x ∧ x.length ≤ 16
theorem okD_W {ns : Nat} {o : Option (List Nat)} (h : okD ns o) (h8 : ns ≤ 8) : okW o := fun x e => ⟨dn_dg (h x e).1 h8, (h x e).2⟩
section AT
variable {now : Nat → Int32} {ns nl nt : Nat} {Lf Lh Li Lk Tp TO : Nat → Int32} {To : Nat → Nat → Int32}
theorem lead_wo (hI : LI now ns nl) (hC : LC now ns nl Lf Lh Li Lk) {l : Nat} (hl : l < nl) {o : Option (List Nat)} (ho : okD ns o) (t : Int32) : ∃ t', F_X1_lead (nI l) (wo o) t Lf Lh Li Lk = some (wo (o.bind (ld1 now l)), t') := by
  cases o with
  | none => exact ⟨0, lead_0 t (nI l)⟩
  | some x =>
    obtain ⟨h1, h2⟩ := ho x rfl
    obtain ⟨t', e1, -⟩ := lead_ap hI hC hl h1 h2 t
    exact ⟨t', e1⟩
theorem okD_b (hI : LI now ns nl) {l : Nat} (hl : l < nl) {o : Option (List Nat)} (ho : okD ns o) : okD ns (o.bind (ld1 now l)) := by
  intro x hx
  cases o with
  | none => cases hx
  | some y =>
    rw [bnd1] at hx
    obtain ⟨e1, e2⟩ := ld1_some hx
    rw [e1]
    exact ⟨ap_dn hI hl (ho y rfl).1, by rw [← e1]; exact e2⟩
theorem bnd_k (l : Nat) (ls : List Nat) (o : Option (List Nat)) : o.bind (ldA now (l :: ls)) = (o.bind (ld1 now l)).bind (ldA now ls) := by
  cases o with
  | none => rw [bnd0, bnd0, bnd0]
  | some x => rw [bnd1, bnd1, ldA_k]
theorem c_lbaL (K : Int32 → (Nat → Int64) → Int32 → Option ((Nat → Int64) × Int32)) (x1 : Int64) (hI : LI now ns nl) (hC : LC now ns nl Lf Lh Li Lk) (hT : TT now nl nt To TO Tp) {t : Nat} (ht : t < nt) (goals : Nat → Int64) (fuel : Nat) :
    ∀ (k : Nat) (o : Option (List Nat)) (t1 : Int32), k ≤ (ow now t).length → (ow now t).length - k < fuel → okD ns o → ∃ t2, F_X0_leadByAll_52L K x1 (nI t) Lf Lh Li Lk (nI nt) To TO Tp fuel (wo o) (nI k) goals t1 = K (nI (t + 1)) (vp_updL goals t (wo (o.bind (ldA now ((ow now t).drop k))))) t2 := by
  have hnt := hT.1.1
  obtain ⟨c, c1, c2, c3, c4, c5, c6⟩ := TT_at hT ht
  induction fuel with
  | zero => intro k o t1 _ h; exact absurd h (Nat.not_lt_zero _)
  | succ fuel ih =>
    intro k o t1 hk hf ho
    have e0 : F_X0_leadByAll_52L K x1 (nI t) Lf Lh Li Lk (nI nt) To TO Tp (fuel + 1) (wo o) (nI k) goals t1 = F_X0_leadByAll_52 K (F_X0_leadByAll_52L K x1 (nI t) Lf Lh Li Lk (nI nt) To TO Tp fuel) x1 (nI t) (wo o) (nI k) goals t1 Lf Lh Li Lk (nI nt) To TO Tp := rfl
    rw [e0]
    unfold F_X0_leadByAll_52
    rw [ck_ok rfl (show t < 6 by omega) (by decide), nI_clamp (n := t) (by omega), c3]
    by_cases c : k = (ow now t).length
    · rw [if_pos (nI_le (by omega) (by omega)), ck_ok rfl (show t < 6 by omega) (by decide), lt_e, lt_e, nI_1, List.drop_eq_nil_of_le (by omega)]
      have : o.bind (ldA now []) = o := by cases o <;> rfl
      rw [this]
      exact ⟨t1, rfl⟩
    · have hk2 : k < (ow now t).length := by omega
      have hl := (ow_at hT.1 ht hk2).2
      have hTo := (hT.2 t ht).2.2 k hk2
      rw [if_neg (nI_ge (by omega) (by omega)), ck_ok rfl (show t < 6 by omega) (by decide), ck_ok rfl (show k < 6 by omega) (by decide), nI_clamp (n := k) (by omega), hTo]
      obtain ⟨t', e1⟩ := lead_wo hI hC hl ho t1
      rw [e1, b2_s, lt_e, nI_1, drop_hd hk2, bnd_k]
      exact ih (k + 1) _ t' (by omega) (by omega) (okD_b hI hl ho)
theorem c_lbA (hI : LI now ns nl) (hC : LC now ns nl Lf Lh Li Lk) (hT : TT now nl nt To TO Tp) {w : List Nat} (hw : dn ns w) (hwl : w.length ≤ 16) (fuel : Nat) :
    ∀ (t : Nat) (goals : Nat → Int64) (t1 : Int32), t ≤ nt → nt - t < fuel → (∀ s, s < t → goals s = wo (ldA now (rows now s) w)) → ∃ goals' t2, F_X0_leadByAll_2L (wl w) Lf Lh Li Lk (nI nt) To TO Tp fuel (nI t) goals t1 = some (goals', t2) ∧ ∀ s, s < nt → goals' s = wo (ldA now (rows now s) w) := by
  have hnt := hT.1.1
  induction fuel with
  | zero => intro t goals t1 _ h; exact absurd h (Nat.not_lt_zero _)
  | succ fuel ih =>
    intro t goals t1 ht hf hg
    have e0 : F_X0_leadByAll_2L (wl w) Lf Lh Li Lk (nI nt) To TO Tp (fuel + 1) (nI t) goals t1 = F_X0_leadByAll_2 (F_X0_leadByAll_2L (wl w) Lf Lh Li Lk (nI nt) To TO Tp fuel) (wl w) (nI t) goals t1 Lf Lh Li Lk (nI nt) To TO Tp := rfl
    rw [e0]
    unfold F_X0_leadByAll_2 F_X0_leadByAll_47
    by_cases c : t = nt
    · rw [if_pos (by rw [c]; exact nI_le (Nat.le_refl _) (by omega))]
      subst c
      exact ⟨goals, t1, rfl, hg⟩
    · have ht2 : t < nt := by omega
      have h6 := ow_len hT.1 ht2
      rw [if_neg (nI_ge ht2 (by omega)), ck_ok rfl (show t < 6 by omega) (by decide), lt_e, nI_clamp (n := t) (by omega), (hT.2 t ht2).1]
      have done : ∀ (o : Option (List Nat)), okD ns o → o.bind (ldA now (ow now t)) = ldA now (rows now t) w → ∃ goals' t2, F_X0_leadByAll_52L (F_X0_leadByAll_2L (wl w) Lf Lh Li Lk (nI nt) To TO Tp fuel) (wl w) (nI t) Lf Lh Li Lk (nI nt) To TO Tp fu_ (wo o) 0 goals t1 = some (goals', t2) ∧ ∀ s, s < nt → goals' s = wo (ldA now (rows now s) w) := by
        intro o ho hb
        obtain ⟨t2, q⟩ := c_lbaL (F_X0_leadByAll_2L (wl w) Lf Lh Li Lk (nI nt) To TO Tp fuel) (wl w) hI hC hT ht2 goals fu_ 0 o t1 (Nat.zero_le _) (by unfold fu_; omega) ho
        rw [List.drop_zero, hb] at q
        rw [show (0 : Int32) = nI 0 from rfl, q]
        refine ih (t + 1) _ t2 (by omega) (by omega) (fun s hs => ?_)
        by_cases c2 : s = t
        · rw [c2, pk_uLs]
        · rw [pk_uLn c2]; exact hg s (by omega)
      rcases (hT.1.2 t ht2).1 with h | ⟨p, hp, h⟩
      · rw [h, if_pos rfl]
        exact done (some w) (fun x e => by cases e; exact ⟨hw, hwl⟩) (by rw [rows_top hT.1 ht2 h]; rfl)
      · have hne : ¬ nI p = -1 := fun q => by have := nI_pos (n := p) (by omega); rw [q] at this; exact this (by decide)
        rw [h, if_neg hne, ck_ok rfl (show p < 6 by omega) (by decide), nI_clamp (n := p) (by omega), hg p hp]
        exact done (ldA now (rows now p) w) (fun x e => ldA_dn hI _ w x (rows_dn hT.1 p (by omega)) hw hwl e) (by rw [rows_up hT.1 ht2 hp h, ldA_app])
theorem c_leadByAll (hI : LI now ns nl) (hC : LC now ns nl Lf Lh Li Lk) (hT : TT now nl nt To TO Tp) {w : List Nat} (hw : dn ns w) (hwl : w.length ≤ 16) (goals : Nat → Int64) (t1 : Int32) : ∃ goals' t2, F_X0_leadByAll (wl w) goals t1 Lf Lh Li Lk (nI nt) To TO Tp = some (goals', t2) ∧ ∀ s, s < nt → goals' s = wo (ldA now (rows now s) w) := by
  have hnt := hT.1.1
  exact c_lbA hI hC hT hw hwl fu_ 0 goals t1 (Nat.zero_le _) (by unfold fu_; omega) (fun s h => absurd h (Nat.not_lt_zero s))
theorem m_lA (hI : LI now ns nl) (hT : TI now nt nl) (n2 : now 2 = nI nt) {w : List Nat} (hw : dn ns w) (hwl : w.length ≤ 4) {some1 : Nat → Int32} (ha : arr some1 w.reverse) (fuel : Nat) :
    ∀ (t : Nat) (mn sz mk ch : Int32) (led : Nat → Int64) (line made row word : Nat → Int32), t ≤ nt → nt - t < fuel → (∀ s, s < t → led s = co (ldA now (rows now s) w)) → ∃ mn2 sz2 mk2 ch2 led2 line2 made2 row2 word2, F_X11_leadAll_2L (nI w.length) now some1 fuel (nI t) mn sz mk ch led line made row word = some (mn2, sz2, mk2, ch2, led2, line2, made2, row2, word2) ∧ ∀ s, s < nt → led2 s = co (ldA now (rows now s) w) := by
  have hnt := hT.1
  induction fuel with
  | zero => intro t mn sz mk ch led line made row word _ h; exact absurd h (Nat.not_lt_zero _)
  | succ fuel ih =>
    intro t mn sz mk ch led line made row word ht hf hg
    have e0 : F_X11_leadAll_2L (nI w.length) now some1 (fuel + 1) (nI t) mn sz mk ch led line made row word = F_X11_leadAll_2 (F_X11_leadAll_2L (nI w.length) now some1 fuel) (nI t) mn sz mk ch (nI w.length) led line made now row some1 word := rfl
    rw [e0]
    unfold F_X11_leadAll_2
    rw [ck_lit (i := 2) (n := 1600) (by decide), show (2 : Int32).toNatClampNeg = 2 by decide, n2]
    by_cases c : t = nt
    · rw [if_pos (by rw [c]; exact nI_le (Nat.le_refl _) (by omega))]
      subst c
      exact ⟨_, _, _, _, _, _, _, _, _, rfl, hg⟩
    · have ht2 : t < nt := by omega
      have hlen := rows_len hT t ht2
      have hv := rows_dn hT t ht2
      obtain ⟨line', row', f1, f2⟩ := m_findLaws hT ht2 mn line row
      obtain ⟨w', s1, s2⟩ := m_takeSome hwl ha sz word
      obtain ⟨sz2, mk2, ch2, made2, word2, m1⟩ := m_code hI f2 (by omega) hv mk ch made w' hw (by omega) s2 (ldA_ok hI hv hw (by omega))
      rw [if_neg (nI_ge ht2 (by omega)), f1, b3_s, s1, b2_s, m1, b6_s, ck_ok rfl (show t < 6 by omega) (by decide), lt_e, lt_e, nI_1, nI_clamp (n := t) (by omega)]
      refine ih (t + 1) _ _ _ _ _ _ _ _ _ (by omega) (by omega) (fun s hs => ?_)
      by_cases c2 : s = t
      · rw [c2, pk_uLs]
      · rw [pk_uLn c2]; exact hg s (by omega)
theorem m_leadAll (hI : LI now ns nl) (hT : TI now nt nl) (n2 : now 2 = nI nt) {w : List Nat} (hw : dn ns w) (hwl : w.length ≤ 4) {some1 : Nat → Int32} (ha : arr some1 w.reverse) (mn sz mk ch : Int32) (led : Nat → Int64) (line made row word : Nat → Int32) : ∃ mn2 sz2 mk2 ch2 led2 line2 made2 row2 word2, F_X11_leadAll mn sz mk ch (nI w.length) led line made now row some1 word = some (mn2, sz2, mk2, ch2, led2, line2, made2, row2, word2) ∧ ∀ s, s < nt → led2 s = co (ldA now (rows now s) w) := by
  have hnt := hT.1
  exact m_lA hI hT n2 hw hwl ha fu_ 0 mn sz mk ch led line made row word (Nat.zero_le _) (by unfold fu_; omega) (fun s h => absurd h (Nat.not_lt_zero s))
end AT
/-- tongue t leads w to the form of meaning m -/
def agB (Mf : Nat → Nat → Int64) (now : Nat → Int32) (m : Nat) (w : List Nat) (t : Nat) : Bool := hasF Mf m t && decide (Mf m t = wo (ldA now (rows now t) w))
def hcB (Mf : Nat → Nat → Int64) (now : Nat → Int32) (m : Nat) (w : List Nat) : Nat := fb_ct (agB Mf now m w) 6
def rtB (Mf : Nat → Nat → Int64) (now : Nat → Int32) (m : Nat) (w : List Nat) : Bool := decide (0 < fb_ct (hasF Mf m) 6) && decide (hcB Mf now m w = fb_ct (hasF Mf m) 6)
theorem c_agL {m : Nat} (hm : m < 8) (Mf : Nat → Nat → Int64) (goals : Nat → Int64) (fuel : Nat) : ∀ i, i ≤ 6 → 6 - i < fuel → F_X2_countAgreeing_5L (nI m) goals Mf fuel (nI (fb_ct (fun t => hasF Mf m t && decide (Mf m t = goals t)) i)) (nI i) = some (nI (fb_ct (fun t => hasF Mf m t && decide (Mf m t = goals t)) 6)) := by
  induction fuel with
  | zero => intro i _ h; exact absurd h (Nat.not_lt_zero _)
  | succ fuel ih =>
    intro i hi hf
    have e0 : F_X2_countAgreeing_5L (nI m) goals Mf (fuel + 1) (nI (fb_ct (fun t => hasF Mf m t && decide (Mf m t = goals t)) i)) (nI i) = F_X2_countAgreeing_5 (F_X2_countAgreeing_5L (nI m) goals Mf fuel) (nI m) (nI (fb_ct (fun t => hasF Mf m t && decide (Mf m t = goals t)) i)) (nI i) goals Mf := rfl
    rw [e0]
    unfold F_X2_countAgreeing_5 F_X2_countAgreeing_46
    by_cases c : i = 6
    · subst c
      rw [if_pos (show (6 : Int32) ≤ nI 6 from nI_le (Nat.le_refl 6) (by omega))]
    · have := ih (i + 1) (by omega) (by omega)
      rw [fb_ct_succ] at this
      rw [if_neg (show ¬ (6 : Int32) ≤ nI i from nI_ge (a := i) (b := 6) (by omega) (by decide)), ck_ok rfl hm (by decide), ck_ok rfl (show i < 6 by omega) (by decide), nI_clamp (n := m) (by omega), nI_clamp (n := i) (by omega)]
      by_cases c2 : Mf m i = 0
      · rw [if_pos c2, lt_e, nI_1]
        have hF : (hasF Mf m i && decide (Mf m i = goals i)) = false := by unfold hasF; simp [c2]
        rw [hF] at this
        exact this
      · rw [if_neg c2, ck_ok rfl hm (by decide), ck_ok rfl (show i < 6 by omega) (by decide), ck_ok rfl (show i < 6 by omega) (by decide)]
        by_cases c3 : Mf m i = goals i
        · rw [if_pos c3, lt_e, lt_e, nI_1, nI_1]
          have hF : (hasF Mf m i && decide (Mf m i = goals i)) = true := by unfold hasF; simp [c2, c3]; exact fun q => c2 (c3.trans q)
          rw [hF] at this
          exact this
        · rw [if_neg c3, lt_e, nI_1]
          have hF : (hasF Mf m i && decide (Mf m i = goals i)) = false := by simp [c3]
          rw [hF] at this
          exact this
section RT
variable {now : Nat → Int32} {ns nl nt nm : Nat} {Mf : Nat → Nat → Int64}
theorem hasF_f (hM : MN now ns nt nm Mf) {m t : Nat} (hm : m < nm) (ht : t < 6) (h : nt ≤ t) : hasF Mf m t = false := by
  rcases hM m hm t ht with ⟨h3, -⟩ | ⟨h3, -⟩
  · unfold hasF; simp [h3]
  · omega
theorem c_agree (h8 : nm ≤ 8) (hM : MN now ns nt nm Mf) {m : Nat} (hm : m < nm) {w : List Nat} {goals : Nat → Int64} (hg : ∀ s, s < nt → goals s = wo (ldA now (rows now s) w)) : F_X2_countAgreeing (nI m) goals Mf = some (nI (hcB Mf now m w)) := by
  have e : fb_ct (fun t => hasF Mf m t && decide (Mf m t = goals t)) 6 = hcB Mf now m w := by
    refine fb_ct_cong (fun t ht => ?_)
    unfold agB
    by_cases c : t < nt
    · rw [hg t c]
    · rw [hasF_f hM hm ht (by omega), Bool.false_and, Bool.false_and]
  rw [← e]
  exact c_agL (by omega) Mf goals fu_ 0 (by decide) (by unfold fu_; omega)
theorem c_rooted (h8 : nm ≤ 8) (hM : MN now ns nt nm Mf) {m : Nat} (hm : m < nm) {w : List Nat} {goals : Nat → Int64} (hg : ∀ s, s < nt → goals s = wo (ldA now (rows now s) w)) : F_X2_isRooted (nI m) goals Mf = some (b2 (rtB Mf now m w)) := by
  have hb1 := fb_ct_le (hasF Mf m) 6
  have hb2 : hcB Mf now m w ≤ 6 := fb_ct_le _ 6
  unfold F_X2_isRooted F_X2_isRooted_0 rtB
  rw [c_countForms (by omega), b1_s]
  by_cases c : 0 < fb_ct (hasF Mf m) 6
  · rw [if_neg (nI_nle c (by omega)), c_agree h8 hM hm hg, b1_s, decide_eq_true c, Bool.true_and]
    by_cases c2 : hcB Mf now m w = fb_ct (hasF Mf m) 6
    · rw [if_pos (by rw [c2]), decide_eq_true c2]; rfl
    · rw [if_neg (fun q => c2 ((nI_eq (by omega) (by omega)).mp q)), decide_eq_false c2]; rfl
  · rw [if_pos (by rw [show fb_ct (hasF Mf m) 6 = 0 by omega]; decide), decide_eq_false c, Bool.false_and]; rfl
theorem m_hitsL (h8 : nm ≤ 8) (h6 : nt ≤ 6) (n8 : ns ≤ 8) (n2 : now 2 = nI nt) (hM : MN now ns nt nm Mf) {m : Nat} (hm : m < nm) {w : List Nat} {led : Nat → Int64} (hg : ∀ s, s < nt → led s = co (ldA now (rows now s) w)) (hok : ∀ s, s < nt → okW (ldA now (rows now s) w)) (fuel : Nat) : ∀ i, i ≤ nt → nt - i < fuel → F_X11_hits_4L (nI m) led now fuel (nI (fb_ct (agB Mf now m w) i)) (nI i) = some (nI (fb_ct (agB Mf now m w) nt)) := by
  induction fuel with
  | zero => intro i _ h; exact absurd h (Nat.not_lt_zero _)
  | succ fuel ih =>
    intro i hi hf
    have e0 : F_X11_hits_4L (nI m) led now (fuel + 1) (nI (fb_ct (agB Mf now m w) i)) (nI i) = F_X11_hits_4 (F_X11_hits_4L (nI m) led now fuel) (nI m) (nI (fb_ct (agB Mf now m w) i)) (nI i) led now := rfl
    rw [e0]
    unfold F_X11_hits_4 F_X11_hits_54 F_X11_hits_55 F_X11_formAt F_X11_formAt_0
    rw [ck_lit (i := 2) (n := 1600) (by decide), show (2 : Int32).toNatClampNeg = 2 by decide, n2]
    by_cases c : i = nt
    · subst c
      rw [if_pos (nI_le (Nat.le_refl _) (by omega))]
    · have hi2 : i < nt := by omega
      rw [if_neg (nI_ge (by omega) (by omega))]
      have := ih (i + 1) (by omega) (by omega)
      rw [fb_ct_succ] at this
      have e3 : (384 : Int32) + (8 : Int32) * (((6 : Int32) * nI m) + nI i) = nI (384 + 8 * (6 * m + i)) := by
        rw [show (384 : Int32) = nI 384 from rfl, show (8 : Int32) = nI 8 from rfl, show (6 : Int32) = nI 6 from rfl, pk_mul, nI_add, pk_mul, nI_add]
      have ez : nI (fb_ct (agB Mf now m w) i) + 0 = nI (fb_ct (agB Mf now m w) i + 0) := nI_add _ 0
      rcases m_formSize h8 h6 n8 hM hm hi2 with ⟨q1, q2, q3⟩ | ⟨r, r1, r2, r3, r4, r5, r6⟩
      · have hF : agB Mf now m w i = false := by unfold agB; rw [q2, Bool.false_and]
        rw [hF] at this
        rw [q3, b1_s, if_pos (by decide), lt_e, lt_e, nI_1, ez]
        exact this
      · have hcd : F_X11_codeOf (nI (384 + 8 * (6 * m + i))) (nI r.length) now = some (co (some r)) := m_codeOf (by omega) (dn_dg r1 n8) (by omega) r6
        have hrok : okW (some r) := okW_some (dn_dg r1 n8) (by omega)
        have hcq := co_inj hrok (hok i hi2)
        have hwq : wl r = wo (ldA now (rows now i) w) ↔ some r = ldA now (rows now i) w := wo_inj hrok (hok i hi2)
        rw [r5, b1_s, if_neg (nI_pos (by omega)), b1_s, e3, hcd, b1_s, ck_ok rfl (show i < 6 by omega) (by decide), nI_clamp (n := i) (by omega), hg i hi2, lt_e, lt_e, lt_e, lt_e, nI_1, nI_1, ez]
        by_cases c2 : some r = ldA now (rows now i) w
        · have hF : agB Mf now m w i = true := by unfold agB; rw [r4, r3, Bool.true_and]; exact decide_eq_true (hwq.mpr c2)
          rw [hF] at this
          rw [if_pos (hcq.mpr c2)]
          exact this
        · have hF : agB Mf now m w i = false := by unfold agB; rw [r3, decide_eq_false (fun q => c2 (hwq.mp q)), Bool.and_false]
          rw [hF] at this
          rw [if_neg (fun q => c2 (hcq.mp q))]
          exact this
theorem m_hits (h8 : nm ≤ 8) (h6 : nt ≤ 6) (n8 : ns ≤ 8) (n2 : now 2 = nI nt) (hM : MN now ns nt nm Mf) {m : Nat} (hm : m < nm) {w : List Nat} {led : Nat → Int64} (hg : ∀ s, s < nt → led s = co (ldA now (rows now s) w)) (hok : ∀ s, s < nt → okW (ldA now (rows now s) w)) : F_X11_hits (nI m) led now = some (nI (hcB Mf now m w)) := by
  have e : hcB Mf now m w = fb_ct (agB Mf now m w) nt := fb_ct_ext 6 h6 (fun t h1 h2 => by unfold agB; rw [hasF_f hM hm h2 h1, Bool.false_and])
  rw [e]
  exact m_hitsL h8 h6 n8 n2 hM hm hg hok fu_ 0 (Nat.zero_le _) (by unfold fu_; omega)
theorem m_root (h8 : nm ≤ 8) (h6 : nt ≤ 6) (n8 : ns ≤ 8) (n2 : now 2 = nI nt) (hM : MN now ns nt nm Mf) {m : Nat} (hm : m < nm) {w : List Nat} {led : Nat → Int64} (hg : ∀ s, s < nt → led s = co (ldA now (rows now s) w)) (hok : ∀ s, s < nt → okW (ldA now (rows now s) w)) : F_X11_isRoot (nI m) led now = some (b2 (rtB Mf now m w)) := by
  have hb1 := fb_ct_le (hasF Mf m) 6
  have hb2 : hcB Mf now m w ≤ 6 := fb_ct_le _ 6
  unfold F_X11_isRoot F_X11_isRoot_0 rtB
  rw [m_formsOf h8 h6 n8 n2 hM hm, b1_s]
  by_cases c : 0 < fb_ct (hasF Mf m) 6
  · rw [if_neg (nI_nle c (by omega)), m_hits h8 h6 n8 n2 hM hm hg hok, b1_s, decide_eq_true c, Bool.true_and]
    by_cases c2 : hcB Mf now m w = fb_ct (hasF Mf m) 6
    · rw [if_pos (by rw [c2]), decide_eq_true c2]; rfl
    · rw [if_neg (fun q => c2 ((nI_eq (by omega) (by omega)).mp q)), decide_eq_false c2]; rfl
  · rw [if_pos (by rw [show fb_ct (hasF Mf m) 6 = 0 by omega]; decide), decide_eq_false c, Bool.false_and]; rfl
/-- THE RESULT does not matter -/
theorem hc_c (hI : LI now ns nl) (hT : TI now nt nl) {now1 : Nat → Int32} (h : rsl now now1) (hM : MN now ns nt nm Mf) {m : Nat} (hm : m < nm) (w : List Nat) : hcB Mf now1 m w = hcB Mf now m w := by
  have hT1 := rsl_TI h hT
  refine fb_ct_cong (fun t ht => ?_)
  unfold agB
  by_cases c : t < nt
  · rw [rows_c hT hT1 (fun i h1 h2 => h i (by omega) (by omega)) t c, ldA_c (rsl_ag h) hI.1 _ w (rows_dn hT t c)]
  · rw [hasF_f hM hm ht (by omega), Bool.false_and, Bool.false_and]
theorem rt_c (hI : LI now ns nl) (hT : TI now nt nl) {now1 : Nat → Int32} (h : rsl now now1) (hM : MN now ns nt nm Mf) {m : Nat} (hm : m < nm) (w : List Nat) : rtB Mf now1 m w = rtB Mf now m w := by
  unfold rtB
  rw [hc_c hI hT h hM hm]
end RT
