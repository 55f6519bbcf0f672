section LD
variable {l kd how into ab db tb : Nat} {vf vh vi vk : Nat → Int32}
theorem set_pl (l w : Nat) : F_X1_setPlace (nI l) (nI w) = some (nI (3 * l + w)) := by
  unfold F_X1_setPlace F_X1_setPlace_0
  rw [show (3 : Int32) = nI 3 from rfl, pk_mul, nI_add, Nat.mul_comm]
/-- one law on a word as the class holds it (the last sound first): what comes of it, and at how many places -/
def lwS (kd how into : Nat) (T Lf Rt : Nat → Bool) (r : List Nat) : List Nat × Nat :=
  if kd = 1 then ((sw T Rt Lf false true true how into r 8 [] 0).1.reverse, (sw T Rt Lf false true true how into r 8 [] 0).2)
  else sw T Lf Rt (decide (kd = 3)) (decide (kd = 2)) false how into r.reverse 8 [] 0
theorem lwS_dg {kd how into : Nat} {T Lf Rt : Nat → Bool} {r : List Nat} (hi : into < 8) (h : dg r) : dg (lwS kd how into T Lf Rt r).1 := by
  unfold lwS
  split
  · exact dg_rev.mpr (sw_dg hi _ _ _ _ h dg_nil)
  · exact sw_dg hi _ _ _ _ (dg_rev.mpr h) dg_nil
theorem lwS_t (kd how into : Nat) (T Lf Rt : Nat → Bool) (r : List Nat) : (lwS kd how into T Lf Rt r).2 ≤ r.length := by
  unfold lwS
  split
  · have := sw_t T Rt Lf false true true how into r 8 [] 0
    simpa using this
  · have := sw_t T Lf Rt (decide (kd = 3)) (decide (kd = 2)) false how into r.reverse 8 [] 0
    simpa using this
theorem lwS_len (kd how into : Nat) (T Lf Rt : Nat → Bool) (r : List Nat) : (lwS kd how into T Lf Rt r).1.length ≤ 2 * r.length := by
  unfold lwS
  split
  · have := sw_len2 T Rt Lf false true true how into r 8 [] 0
    simpa using this
  · have := sw_len2 T Lf Rt (decide (kd = 3)) (decide (kd = 2)) false how into r.reverse 8 [] 0
    simpa using this
theorem sp_sweep (l16 : l < 16) (hh : vh l = nI how) (how2 : how ≤ 2) (hin : vi l = nI into) (hi8 : into < 8) (hk : vk l = nI kd) (kd3 : kd ≤ 3) (hab : ab < 2 ^ 31) (hdb : db < 2 ^ 31) (htb : tb < 2 ^ 31) (hft : vf (3 * l) = nI tb) {rest : List Nat} (hr : dg rest) (hrl : rest.length ≤ 16) :
    ∃ t' : Int32, F_X1_sweep (nI l) (wl rest) (nI ab) (nI db) 0 vf vh vi vk = some (if (sw tb.testBit db.testBit ab.testBit (decide (kd = 3)) (decide (kd = 1) || decide (kd = 2)) (decide (kd = 1)) how into rest 8 [] 0).1.length ≤ 16 then wl (sw tb.testBit db.testBit ab.testBit (decide (kd = 3)) (decide (kd = 1) || decide (kd = 2)) (decide (kd = 1)) how into rest 8 [] 0).1 else 0, t') ∧
      ((sw tb.testBit db.testBit ab.testBit (decide (kd = 3)) (decide (kd = 1) || decide (kd = 2)) (decide (kd = 1)) how into rest 8 [] 0).1.length ≤ 16 → t' = nI (sw tb.testBit db.testBit ab.testBit (decide (kd = 3)) (decide (kd = 1) || decide (kd = 2)) (decide (kd = 1)) how into rest 8 [] 0).2) := by
  have cl : (nI l).toNatClampNeg = l := nI_clamp (by omega)
  have key : F_X1_sweep (nI l) (wl rest) (nI ab) (nI db) 0 vf vh vi vk = F_X1_sweep_69L (nI l) (nI ab) (nI db) (b2 (decide (kd = 3))) (b2 (decide (kd = 1) || decide (kd = 2))) (nI tb) vh vi vk fu_ (nI 8) (wl rest) (wl []) (nI 0) (nI 0) := by
    have e42 : ∀ x6 s0 : Int32, F_X1_sweep_42 (nI l) (wl rest) (nI ab) (nI db) x6 s0 0 vf vh vi vk = F_X1_sweep_69L (nI l) (nI ab) (nI db) x6 s0 (nI tb) vh vi vk fu_ (nI 8) (wl rest) (wl []) (nI 0) (nI 0) := by
      intro x6 s0
      unfold F_X1_sweep_42
      have e1 := set_pl l 0
      rw [Nat.add_zero] at e1
      rw [show (0 : Int32) = nI 0 from rfl, e1, b1_s, ck_ok rfl (show 3 * l < 48 by omega) (by decide), lt_e, nI_clamp (by omega), hft]
      rfl
    have e15 : ∀ x6 : Int32, F_X1_sweep_15 (nI l) (wl rest) (nI ab) (nI db) x6 0 vf vh vi vk = F_X1_sweep_69L (nI l) (nI ab) (nI db) x6 (b2 (decide (kd = 1) || decide (kd = 2))) (nI tb) vh vi vk fu_ (nI 8) (wl rest) (wl []) (nI 0) (nI 0) := by
      intro x6
      unfold F_X1_sweep_15 F_X1_sweep_37
      rw [ck_ok rfl l16 (by decide), ck_ok rfl l16 (by decide), cl, hk]
      by_cases c1 : kd = 1
      · rw [if_pos ((e1_ (by omega)).mpr c1), e42]
        simp [c1, b2]
      · rw [if_neg (fun q => c1 ((e1_ (by omega)).mp q))]
        by_cases c2 : kd = 2
        · rw [if_pos ((e2_ (by omega)).mpr c2), e42]
          simp [c2, b2]
        · rw [if_neg (fun q => c2 ((e2_ (by omega)).mp q)), e42]
          simp [c1, c2, b2]
    unfold F_X1_sweep F_X1_sweep_0
    rw [ck_ok rfl l16 (by decide), cl, hk]
    by_cases c3 : kd = 3
    · rw [if_pos ((e3_ (by omega)).mpr c3), e15]
      simp [c3, b2]
    · rw [if_neg (fun q => c3 ((e3_ (by omega)).mp q)), e15]
      simp [c3, b2]
  rw [key]
  exact sp_loop l16 hh how2 hin hi8 hk kd3 hab hdb htb fu_ rest 8 [] 0 0 hr dg_nil (by decide) (by omega) (Nat.le_refl _) (Nat.le_refl _) (by unfold fu_; omega)
theorem lead_0 (t : Int32) (law : Int32) : F_X1_lead law 0 t vf vh vi vk = some (0, 0) := rfl
theorem lead_s {lb rb : Nat} (t : Int32) (l16 : l < 16) (hh : vh l = nI how) (how2 : how ≤ 2) (hin : vi l = nI into) (hi8 : into < 8) (hk : vk l = nI kd) (kd3 : kd ≤ 3) (hlb : lb < 2 ^ 31) (hrb : rb < 2 ^ 31) (htb : tb < 2 ^ 31) (hft : vf (3 * l) = nI tb) (hfl : vf (3 * l + 1) = nI lb) (hfr : vf (3 * l + 2) = nI rb) {r : List Nat} (hr : dg r) (hrl : r.length ≤ 16) :
    ∃ t' : Int32, F_X1_lead (nI l) (wl r) t vf vh vi vk = some (if (lwS kd how into tb.testBit lb.testBit rb.testBit r).1.length ≤ 16 then wl (lwS kd how into tb.testBit lb.testBit rb.testBit r).1 else 0, t') ∧
      ((lwS kd how into tb.testBit lb.testBit rb.testBit r).1.length ≤ 16 → t' = nI (lwS kd how into tb.testBit lb.testBit rb.testBit r).2) := by
  have cl : (nI l).toNatClampNeg = l := nI_clamp (by omega)
  have e0 : F_X1_lead (nI l) (wl r) t vf vh vi vk = if kd = 1 then bn2_ (F_X1_sweep (nI l) (wl r) (nI lb) (nI rb) 0 vf vh vi vk) (fun y16 o15 => bn1_ (F_X9_turned y16) (fun y18 => some (y18, o15))) else bn2_ (F_X1_sweep (nI l) (wl r.reverse) (nI rb) (nI lb) 0 vf vh vi vk) (fun y13 o12 => some (y13, o12)) := by
    unfold F_X1_lead F_X1_lead_0
    rw [lt_e, if_neg (wl_ne0 hr (by omega)), show (1 : Int32) = nI 1 from rfl, show (2 : Int32) = nI 2 from rfl, set_pl l 1, b1_s, ck_ok rfl (show 3 * l + 1 < 48 by omega) (by decide), lt_e, nI_clamp (n := 3 * l + 1) (by omega), hfl, set_pl l 2, b1_s, ck_ok rfl (show 3 * l + 2 < 48 by omega) (by decide), lt_e, nI_clamp (n := 3 * l + 2) (by omega), hfr, ck_ok rfl l16 (by decide), cl, hk, w_turned hr hrl, b1_s]
    by_cases c : kd = 1
    · rw [if_pos ((nI_eq (b := 1) (by omega) (by decide)).mpr c), if_pos c]
    · rw [if_neg (fun q => c ((nI_eq (b := 1) (by omega) (by decide)).mp q)), if_neg c]
  rw [e0]
  unfold lwS
  by_cases c : kd = 1
  · rw [if_pos c, if_pos c]
    obtain ⟨t', e1, e2⟩ := sp_sweep (ab := lb) (db := rb) l16 hh how2 hin hi8 hk kd3 hlb hrb htb hft hr hrl
    have e3 : decide (kd = 3) = false := by simp [c]
    have e4 : (decide (kd = 1) || decide (kd = 2)) = true := by simp [c]
    have e5 : decide (kd = 1) = true := by simp [c]
    rw [e3, e4, e5] at e1 e2
    rw [e1]
    have hd := sw_dg (T := tb.testBit) (D := rb.testBit) (A := lb.testBit) (once := false) (flow := true) (lft := true) (how := how) hi8 r 8 [] 0 hr dg_nil
    generalize sw tb.testBit rb.testBit lb.testBit false true true how into r 8 [] 0 = R at e2 hd ⊢
    refine ⟨t', ?_, fun h => e2 (by simpa using h)⟩
    show bn1_ (F_X9_turned (if R.1.length ≤ 16 then wl R.1 else 0)) _ = some (if R.1.reverse.length ≤ 16 then wl R.1.reverse else 0, t')
    rw [List.length_reverse]
    by_cases c2 : R.1.length ≤ 16
    · rw [if_pos c2, if_pos c2, w_turned hd c2]
      rfl
    · rw [if_neg c2, if_neg c2]
      rfl
  · rw [if_neg c, if_neg c]
    obtain ⟨t', e1, e2⟩ := sp_sweep (ab := rb) (db := lb) l16 hh how2 hin hi8 hk kd3 hrb hlb htb hft (dg_rev.mpr hr) (by rw [List.length_reverse]; exact hrl)
    have e4 : (decide (kd = 1) || decide (kd = 2)) = decide (kd = 2) := by simp [c]
    have e5 : decide (kd = 1) = false := by simp [c]
    rw [e4, e5] at e1 e2
    rw [e1]
    exact ⟨t', rfl, e2⟩
end LD
