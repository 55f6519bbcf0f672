/-! forms -/
theorem fb_ct_ext {p : Nat → Bool} {n : Nat} : ∀ m, n ≤ m → (∀ k, n ≤ k → k < m → p k = false) → fb_ct p m = fb_ct p n := by
  intro m
  induction m with
  | zero => intro h _; rw [show n = 0 by omega]
  | succ m ih =>
    intro h hp
    by_cases c : n = m + 1
    · rw [c]
    · rw [fb_ct_succ, hp m (by omega) (by omega), ih (by omega) (fun k h1 h2 => hp k h1 (by omega))]
      simp
def hasF (Mf : Nat → Nat → Int64) (m t : Nat) : Bool := !decide (Mf m t = 0)
theorem c_cntL {m : Nat} (hm : m < 8) (Mf : Nat → Nat → Int64) (fuel : Nat) : ∀ i, i ≤ 6 → 6 - i < fuel → F_X2_countForms_4L (nI m) Mf fuel (nI (fb_ct (hasF Mf m) i)) (nI i) = some (nI (fb_ct (hasF Mf m) 6)) := by
  induction fuel with
  | zero => intro i _ h; exact absurd h (Nat.not_lt_zero _)
  | succ fuel ih =>
    intro i hi hf
    have e0 : F_X2_countForms_4L (nI m) Mf (fuel + 1) (nI (fb_ct (hasF Mf m) i)) (nI i) = F_X2_countForms_4 (F_X2_countForms_4L (nI m) Mf fuel) (nI m) (nI (fb_ct (hasF Mf m) i)) (nI i) Mf := rfl
    rw [e0]
    unfold F_X2_countForms_4 F_X2_countForms_26
    by_cases c : i = 6
    · subst c
      rw [if_pos (show (6 : Int32) ≤ nI 6 from nI_le (Nat.le_refl 6) (by omega))]
    · rw [if_neg (show ¬ (6 : Int32) ≤ nI i from nI_ge (a := i) (b := 6) (by omega) (by decide)), ck_ok rfl hm (by decide), ck_ok rfl (show i < 6 by omega) (by decide), nI_clamp (n := m) (by omega), nI_clamp (n := i) (by omega)]
      have := ih (i + 1) (by omega) (by omega)
      rw [fb_ct_succ] at this
      by_cases c2 : Mf m i = 0
      · rw [if_pos c2, lt_e, nI_1]
        have hF : hasF Mf m i = false := by unfold hasF; simp [c2]
        rw [hF] at this
        exact this
      · rw [if_neg c2, lt_e, lt_e, nI_1, nI_1]
        have hF : hasF Mf m i = true := by unfold hasF; simp [c2]
        rw [hF] at this
        exact this
theorem c_countForms {m : Nat} (hm : m < 8) (Mf : Nat → Nat → Int64) : F_X2_countForms (nI m) Mf = some (nI (fb_ct (hasF Mf m) 6)) := c_cntL hm Mf fu_ 0 (by decide) (by unfold fu_; omega)
section FM
variable {now : Nat → Int32} {ns nt nm : Nat} {Mf : Nat → Nat → Int64}
theorem e320 (m t : Nat) : ((320 : Int32) + (6 : Int32) * nI m) + nI t = nI (320 + 6 * m + t) := by
  rw [show (320 : Int32) = nI 320 from rfl, show (6 : Int32) = nI 6 from rfl, pk_mul, nI_add, nI_add]
theorem m_formSize (h8 : nm ≤ 8) (h6 : nt ≤ 6) (n8 : ns ≤ 8) (hM : MN now ns nt nm Mf) {m t : Nat} (hm : m < nm) (ht : t < nt) : (Mf m t = 0 ∧ hasF Mf m t = false ∧ F_X11_formSize (nI m) (nI t) now = some (-1)) ∨ (∃ r : List Nat, dn ns r ∧ r.length ≤ 8 ∧ Mf m t = wl r ∧ hasF Mf m t = true ∧ F_X11_formSize (nI m) (nI t) now = some (nI r.length) ∧ arr (fun i => now (384 + 8 * (6 * m + t) + i)) r.reverse) := by
  unfold F_X11_formSize F_X11_formSize_0
  rw [e320, ck_ok rfl (show 320 + 6 * m + t < 1600 by omega) (by decide), nI_clamp (n := 320 + 6 * m + t) (by omega)]
  rcases hM m hm t (by omega) with ⟨h1, h2⟩ | ⟨h1, r, r1, r2, r3, r4, r5⟩
  · refine Or.inl ⟨h1, by unfold hasF; simp [h1], ?_⟩
    rw [h2 ht]; rfl
  · refine Or.inr ⟨r, r1, r2, r3, ?_, ?_, r5⟩
    · unfold hasF
      have := wl_ne0 (dn_dg r1 n8) (by omega)
      rw [r3]
      simp [this]
    · rw [r4, nI_pred]
theorem m_formsL (h8 : nm ≤ 8) (h6 : nt ≤ 6) (n8 : ns ≤ 8) (n2 : now 2 = nI nt) (hM : MN now ns nt nm Mf) {m : Nat} (hm : m < nm) (fuel : Nat) : ∀ i, i ≤ nt → nt - i < fuel → F_X11_formsOf_4L (nI m) now fuel (nI (fb_ct (hasF Mf m) i)) (nI i) = some (nI (fb_ct (hasF Mf m) nt)) := by
  induction fuel with
  | zero => intro i _ h; exact absurd h (Nat.not_lt_zero _)
  | succ fuel ih =>
    intro i hi hf
    have e0 : F_X11_formsOf_4L (nI m) now (fuel + 1) (nI (fb_ct (hasF Mf m) i)) (nI i) = F_X11_formsOf_4 (F_X11_formsOf_4L (nI m) now fuel) (nI m) (nI (fb_ct (hasF Mf m) i)) (nI i) now := rfl
    rw [e0]
    unfold F_X11_formsOf_4 F_X11_formsOf_29
    rw [ck_lit (i := 2) (n := 1600) (by decide), show (2 : Int32).toNatClampNeg = 2 by decide, n2]
    by_cases c : i = nt
    · subst c
      rw [if_pos (nI_le (Nat.le_refl _) (by omega))]
    · rw [if_neg (nI_ge (by omega) (by omega))]
      have := ih (i + 1) (by omega) (by omega)
      rw [fb_ct_succ] at this
      rcases m_formSize h8 h6 n8 hM hm (show i < nt by omega) with ⟨q1, q2, q3⟩ | ⟨r, r1, r2, r3, r4, r5, r6⟩
      · rw [q3, b1_s, if_pos (by decide), lt_e, lt_e, nI_1, show nI (fb_ct (hasF Mf m) i) + 0 = nI (fb_ct (hasF Mf m) i + 0) from nI_add _ 0]
        rw [q2] at this
        exact this
      · rw [r5, b1_s, if_neg (nI_pos (by omega)), lt_e, lt_e, nI_1, nI_1]
        rw [r4] at this
        exact this
theorem hasF_out (hM : MN now ns nt nm Mf) {m : Nat} (hm : m < nm) (h6 : nt ≤ 6) : fb_ct (hasF Mf m) 6 = fb_ct (hasF Mf m) nt := by
  refine fb_ct_ext 6 h6 (fun t h1 h2 => ?_)
  rcases hM m hm t h2 with ⟨h3, -⟩ | ⟨h3, -⟩
  · unfold hasF; simp [h3]
  · omega
theorem m_formsOf (h8 : nm ≤ 8) (h6 : nt ≤ 6) (n8 : ns ≤ 8) (n2 : now 2 = nI nt) (hM : MN now ns nt nm Mf) {m : Nat} (hm : m < nm) : F_X11_formsOf (nI m) now = some (nI (fb_ct (hasF Mf m) 6)) := by
  rw [hasF_out hM hm h6]
  exact m_formsL h8 h6 n8 n2 hM hm fu_ 0 (Nat.zero_le _) (by unfold fu_; omega)
end FM
theorem m_formL {m t k : Nat} (hm : m < 8) (ht : t < 6) (hk : k ≤ 8) (fi : Int32) (now0 : Nat → Int32) (h4 : now0 4 = nI k) (fuel : Nat) : ∀ (i : Nat) (now : Nat → Int32), i ≤ k → k - i < fuel → (∀ q, (q < 384 + 8 * (6 * m + t) ∨ 392 + 8 * (6 * m + t) ≤ q) → now q = now0 q) → (∀ q, q < i → now (384 + 8 * (6 * m + t) + q) = now0 (800 + q)) →
    ∃ now', F_X11_form_47L (nI m) (nI t) fi fuel (nI i) now = bn1_ (F_X11_formsOf (nI m) now') (fun y => some (y, fi, now')) ∧ (∀ q, (q < 384 + 8 * (6 * m + t) ∨ 392 + 8 * (6 * m + t) ≤ q) → now' q = now0 q) ∧ ∀ q, q < k → now' (384 + 8 * (6 * m + t) + q) = now0 (800 + q) := by
  induction fuel with
  | zero => intro i now _ h; exact absurd h (Nat.not_lt_zero _)
  | succ fuel ih =>
    intro i now hi hf h1 h2
    have e0 : F_X11_form_47L (nI m) (nI t) fi (fuel + 1) (nI i) now = F_X11_form_47 (F_X11_form_47L (nI m) (nI t) fi fuel) (nI m) (nI t) (nI i) fi now := rfl
    rw [e0]
    unfold F_X11_form_47 F_X11_formAt F_X11_formAt_0
    rw [ck_lit (i := 4) (n := 1600) (by decide), show (4 : Int32).toNatClampNeg = 4 by decide, h1 4 (by omega), h4]
    by_cases c : i = k
    · subst c
      rw [if_pos (nI_le (Nat.le_refl _) (by omega))]
      exact ⟨now, rfl, h1, h2⟩
    · have e3 : (384 : Int32) + (8 : Int32) * (((6 : Int32) * nI m) + nI t) = nI (384 + 8 * (6 * m + t)) := by
        rw [show (384 : Int32) = nI 384 from rfl, show (8 : Int32) = nI 8 from rfl, show (6 : Int32) = nI 6 from rfl, pk_mul, nI_add, pk_mul, nI_add]
      have e8 : (800 : Int32) + nI i = nI (800 + i) := nI_add 800 i
      rw [if_neg (nI_ge (by omega) (by omega)), b1_s, e3, e8, nI_add, ck_ok rfl (show 800 + i < 1600 by omega) (by decide), ck_ok rfl (show 384 + 8 * (6 * m + t) + i < 1600 by omega) (by decide), lt_e, lt_e, nI_1, nI_clamp (n := 800 + i) (by omega), nI_clamp (n := 384 + 8 * (6 * m + t) + i) (by omega)]
      refine ih (i + 1) _ (by omega) (by omega) (fun q hq => ?_) (fun q hq => ?_)
      · rw [pk_un (by omega)]; exact h1 q hq
      · by_cases c2 : q = i
        · subst c2; rw [pk_us]; exact h1 _ (by omega)
        · rw [pk_un (by omega)]; exact h2 q (by omega)
set_option maxHeartbeats 1000000 in
theorem sim_form : Sim_form Rel := by
  intro wc ak fi kwd kou kga klc klt klw kLc kLf kLh kLi kLk kLK kLN kLY kMc kMf kSc kSr kSk kSn kSy kTc kTo kTO kTp wd ou ga lc lt lw Lc Lf Lh Li Lk LK LN LY Mc Mf Sc Sr Sk Sn Sy Tc To TO Tp wt isK wts mfi now mkept mwt z0 z1 hR
  obtain ⟨hW, hK, hF, hS⟩ := hR
  subst hF
  have hS0 := hS
  obtain ⟨ns, nl, nt, nm, hC, hSn, hL, hT, hM, ⟨r, hw⟩, hO, hLt, hG⟩ := hS
  obtain ⟨n0, n1, n2, n3, rfl, rfl, rfl, rfl, bb0, bb1, bb2, bb3⟩ := hC
  rcases ix_c z0 (n := nm) (by omega) with h | ⟨m, hm, rfl⟩
  · iterate 5 apply Exists.intro
    refine ⟨?e1, ?e2, hW, hK, ?e5, ?e3⟩
    case e1 => unfold F_X10_form F_X10_form_0 F_X10_form_28; rw [has2, has_no h]; rfl
    case e2 => unfold F_X11_form F_X11_form_0 F_X11_form_16; rw [is3_no n3 (by omega) h]; rfl
    case e5 => rfl
    case e3 => exact hS0
  · rcases ix_c z1 (n := nt) (by omega) with h | ⟨t, ht, rfl⟩
    · iterate 5 apply Exists.intro
      refine ⟨?e1, ?e2, hW, hK, ?e5, ?e3⟩
      case e1 => unfold F_X10_form F_X10_form_0 F_X10_form_28; rw [has2, has_yes (by omega) hm, b1_s, if_neg (by decide), has7, has_no h]; rfl
      case e2 => unfold F_X11_form F_X11_form_0 F_X11_form_16; rw [is3_yes n3 (by omega) hm, b1_s, if_neg (by decide), is2_no n2 (by omega) h]; rfl
      case e5 => rfl
      case e3 => exact hS0
    · obtain ⟨r1, r2, r3, r4, r5⟩ := hw
      have hw : WDr now ns wd r := ⟨r1, r2, r3, r4, r5⟩
      have hk : upd now (320 + 6 * m + t) (nI (r.length + 1)) 4 = nI r.length := by rw [pk_un (by omega)]; exact r4
      obtain ⟨now', d1, d2, d3⟩ := m_formL (m := m) (t := t) (k := r.length) (by omega) (by omega) r2 fi (upd now (320 + 6 * m + t) (nI (r.length + 1))) hk fu_ 0 (upd now (320 + 6 * m + t) (nI (r.length + 1))) (Nat.zero_le _) (by unfold fu_; omega) (fun _ _ => rfl) (fun q hq => absurd hq (Nat.not_lt_zero q))
      have hn : ∀ i, i ≠ 320 + 6 * m + t ∧ (i < 384 + 8 * (6 * m + t) ∨ 392 + 8 * (6 * m + t) ≤ i) → now' i = now i := fun i hi => by rw [d2 i hi.2, pk_un hi.1]
      have hs : now' (320 + 6 * m + t) = nI (r.length + 1) := by rw [d2 _ (by omega), pk_us]
      have hM' : MN now' ns nt nm (ur_ Mf m (vp_updL (Mf m) t wd)) := by
        intro a ha b hb
        by_cases cc : a = m ∧ b = t
        · obtain ⟨rfl, rfl⟩ := cc
          refine Or.inr ⟨ht, r, r1, r2, ?_, hs, arr_of r5 (fun i hi => ?_)⟩
          · rw [ur_s, pk_uLs, r3]
          · rw [List.length_reverse] at hi
            show now' (384 + 8 * (6 * a + b) + i) = now (800 + i)
            rw [d3 i hi, pk_un (by omega)]
        · have e : ur_ Mf m (vp_updL (Mf m) t wd) a b = Mf a b := by
            by_cases ca : a = m
            · subst ca
              rw [ur_s, pk_uLn (fun q => cc ⟨rfl, q⟩)]
            · rw [ur_n ca]
          rw [e]
          have hne : ¬ (6 * a + b = 6 * m + t) := fun q => cc (by omega)
          rcases hM a ha b hb with h1 | ⟨h1, q, q1, q2, q3, q4, q5⟩
          · exact Or.inl ⟨h1.1, fun h3 => by rw [hn _ (by omega)]; exact h1.2 h3⟩
          · refine Or.inr ⟨h1, q, q1, q2, q3, by rw [hn _ (by omega)]; exact q4, arr_of q5 (fun i hi => ?_)⟩
            rw [List.length_reverse] at hi
            exact hn _ (by omega)
      have hf2 : F_X11_formsOf (nI m) now' = some (nI (fb_ct (hasF (ur_ Mf m (vp_updL (Mf m) t wd)) m) 6)) := m_formsOf bb3 bb2 bb0 ((hn 2 (by omega)).trans n2) hM' hm
      iterate 5 apply Exists.intro
      refine ⟨?e1, ?e2, hW, hK, ?e5, ns, nl, nt, nm, ⟨(hn 0 (by omega)).trans n0, (hn 1 (by omega)).trans n1, (hn 2 (by omega)).trans n2, (hn 3 (by omega)).trans n3, rfl, rfl, rfl, rfl, bb0, bb1, bb2, bb3⟩, SN_c bb0 (fun i h4 h5 => hn i (by omega)) hSn, LL_c (fun i h4 h5 => hn i (by omega)) hL, TT_c (fun i h4 h5 => hn i (by omega)) hT, hM', ⟨r, WDr_c (hn 4 (by omega)) (fun i h4 h5 => hn i (by omega)) hw⟩, OC_c (hn 7 (by omega)) (fun i h4 h5 => hn i (by omega)) hO, LT_c (hn 5 (by omega)) (fun i h4 h5 => hn i (by omega)) hLt, GP_c (hn 6 (by omega)) hG⟩
      case e1 =>
        unfold F_X10_form F_X10_form_0
        rw [has2, has_yes (by omega) hm, b1_s, if_neg (by decide), has7, has_yes (by omega) ht, b1_s, if_neg (by decide), ck_ok rfl (show m < 8 by omega) (by decide), ck_ok rfl (show t < 6 by omega) (by decide), lt_e, nI_clamp (n := m) (by omega), nI_clamp (n := t) (by omega), c_countForms (by omega)]
        rfl
      case e2 =>
        unfold F_X11_form F_X11_form_0
        rw [is3_yes n3 (by omega) hm, b1_s, if_neg (by decide), is2_yes n2 (by omega) ht, b1_s, if_neg (by decide), ck_lit (i := 4) (n := 1600) (by decide), show (4 : Int32).toNatClampNeg = 4 by decide, r4, nI_1, e320, ck_ok rfl (show 320 + 6 * m + t < 1600 by omega) (by decide), lt_e, nI_clamp (n := 320 + 6 * m + t) (by omega)]
        exact (show F_X11_form_47L (nI m) (nI t) fi fu_ (nI 0) (upd now (320 + 6 * m + t) (nI (r.length + 1))) = _ by rw [d1, hf2]; rfl)
      case e5 => rfl
