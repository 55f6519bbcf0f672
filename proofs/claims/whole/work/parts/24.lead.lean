def b2 (b : Bool) : Int32 := if b then 1 else 0
theorem b2_0 {b : Bool} : b2 b = 0 ↔ b = false := by cases b <;> decide
section SWP
variable {l kd how into ab db tb : Nat} {once flow : Bool} {vh vi vk : Nat → Int32}
theorem sp_200 (k69 : Int32 → Int64 → Int64 → Int32 → Int32 → Option (Int64 × Int32)) (x1 x4 x5 x6 x7 x8 : Int32) {s i : Nat} {rest out : List Nat} (t : Int32) (ho : dg out) (hol : out.length ≤ 18) :
    F_X1_sweep_200 k69 x1 x4 x5 x6 x7 x8 (wl rest) (wl out) (nI i) (nI s) t vh vi vk = if out.length ≤ 16 then k69 (nI s) (wl rest) (wl out) (nI (i + 1)) t else some (0, t) := by
  unfold F_X1_sweep_200
  rw [w_long ho (by omega), b1_s]
  by_cases c : out.length ≤ 16
  · rw [if_pos c, if_pos rfl, if_pos c, lt_e, nI_1]
  · rw [if_neg c, if_neg (by decide), if_neg c]
theorem sp_191 (k69 : Int32 → Int64 → Int64 → Int32 → Int32 → Option (Int64 × Int32)) (x1 x4 x5 x6 x7 x8 : Int32) {s : Nat} {rest out : List Nat} (i t : Int32) (hs : s < 8) (ho : dg out) (hol : out.length ≤ 16) :
    F_X1_sweep_191 k69 x1 x4 x5 x6 x7 x8 (wl rest) (wl out) i (nI s) t vh vi vk = F_X1_sweep_200 k69 x1 x4 x5 x6 x7 x8 (wl rest) (wl (s :: out)) i (nI s) t vh vi vk := by
  unfold F_X1_sweep_191
  rw [w_add (dg_cons.mpr ⟨hs, ho⟩) (by omega), b1_s]
theorem sp_148 (k69 : Int32 → Int64 → Int64 → Int32 → Int32 → Option (Int64 × Int32)) (x5 x6 x7 x8 i : Int32) {s q t : Nat} {rest out : List Nat} (l16 : l < 16) (hh : vh l = nI how) (how2 : how ≤ 2) (hin : vi l = nI into) (hi8 : into < 8) (hk : vk l = nI kd) (kd3 : kd ≤ 3) (hab : ab < 2 ^ 31) (hdb : db < 2 ^ 31)
    (hs : s < 8) (hq : q ≤ 8) (hr : dg rest) (hrl : rest.length ≤ 16) (ho : dg out) (hol : out.length ≤ 16) :
    F_X1_sweep_148 k69 (nI l) (nI ab) x5 x6 x7 x8 (wl rest) (wl out) i (nI s) (nI db) (nI q) (nI t) vh vi vk = F_X1_sweep_200 k69 (nI l) (nI ab) x5 x6 x7 x8 (wl rest) (wl (if db.testBit q && ab.testBit (hd8 rest) then chg (decide (kd = 1)) how into s out else s :: out)) i (nI s) (nI (if db.testBit q && ab.testBit (hd8 rest) then t + 1 else t)) vh vi vk := by
  have h8 := hd8_le hr
  unfold F_X1_sweep_148
  rw [is_in hdb (by omega), b1_s]
  cases h1 : db.testBit q with
  | false =>
    rw [if_pos (by decide), sp_191 _ _ _ _ _ _ _ _ _ hs ho hol]
    simp
  | true =>
    rw [if_neg (by decide), w_lasth hr (by omega), b1_s, is_in hab (by omega), b1_s]
    cases h2 : ab.testBit (hd8 rest) with
    | false =>
      rw [if_pos (by decide), sp_191 _ _ _ _ _ _ _ _ _ hs ho hol]
      simp
    | true =>
      rw [if_neg (by decide), lt_e, ad_chg rfl l16 hh how2 hin hi8 hk kd3 hs ho hol, b1_s, nI_1]
      simp
theorem sp_114 (k69 : Int32 → Int64 → Int64 → Int32 → Int32 → Option (Int64 × Int32)) (x6 i : Int32) {s before t : Nat} {rest out : List Nat} (l16 : l < 16) (hh : vh l = nI how) (how2 : how ≤ 2) (hin : vi l = nI into) (hi8 : into < 8) (hk : vk l = nI kd) (kd3 : kd ≤ 3) (hab : ab < 2 ^ 31) (hdb : db < 2 ^ 31) (htb : tb < 2 ^ 31)
    (hs : s < 8) (hb : before ≤ 8) (hr : dg rest) (hrl : rest.length ≤ 16) (ho : dg out) (hol : out.length ≤ 16) (over : Bool) (hov : over = (once && decide (0 < t))) :
    F_X1_sweep_114 k69 (nI l) (nI ab) (nI db) x6 (b2 flow) (nI tb) (nI before) (wl rest) (wl out) i (nI s) (b2 over) (nI t) vh vi vk = F_X1_sweep_200 k69 (nI l) (nI ab) (nI db) x6 (b2 flow) (nI tb) (wl rest) (wl (if hit tb.testBit db.testBit ab.testBit once flow s before rest out t then chg (decide (kd = 1)) how into s out else s :: out)) i (nI s) (nI (if hit tb.testBit db.testBit ab.testBit once flow s before rest out t then t + 1 else t)) vh vi vk := by
  unfold F_X1_sweep_114 hit
  rw [← hov]
  cases over with
  | true =>
    rw [if_neg (by decide), sp_191 _ _ _ _ _ _ _ _ _ hs ho hol]
    simp
  | false =>
    rw [if_pos (by decide), is_in htb (by omega), b1_s]
    cases h1 : tb.testBit s with
    | false =>
      rw [if_pos (by decide), sp_191 _ _ _ _ _ _ _ _ _ hs ho hol]
      simp
    | true =>
      rw [if_neg (by decide)]
      cases flow with
      | false =>
        rw [if_pos (by decide), sp_148 k69 _ _ _ _ _ l16 hh how2 hin hi8 hk kd3 hab hdb hs hb hr hrl ho hol]
        simp
      | true =>
        rw [if_neg (by decide), w_lasth ho (by omega), b1_s, sp_148 k69 _ _ _ _ _ l16 hh how2 hin hi8 hk kd3 hab hdb hs (hd8_le ho) hr hrl ho hol]
        simp
theorem sp_loop (l16 : l < 16) (hh : vh l = nI how) (how2 : how ≤ 2) (hin : vi l = nI into) (hi8 : into < 8) (hk : vk l = nI kd) (kd3 : kd ≤ 3) (hab : ab < 2 ^ 31) (hdb : db < 2 ^ 31) (htb : tb < 2 ^ 31) (fuel : Nat) :
    ∀ (rest : List Nat) (before : Nat) (out : List Nat) (i t : Nat), dg rest → dg out → out.length ≤ 16 → i + rest.length ≤ 16 → t ≤ i → before ≤ 8 → rest.length < fuel →
    ∃ t' : Int32, F_X1_sweep_69L (nI l) (nI ab) (nI db) (b2 once) (b2 flow) (nI tb) vh vi vk fuel (nI before) (wl rest) (wl out) (nI i) (nI t) = some (if (sw tb.testBit db.testBit ab.testBit once flow (decide (kd = 1)) how into rest before out t).1.length ≤ 16 then wl (sw tb.testBit db.testBit ab.testBit once flow (decide (kd = 1)) how into rest before out t).1 else 0, t') ∧
      ((sw tb.testBit db.testBit ab.testBit once flow (decide (kd = 1)) how into rest before out t).1.length ≤ 16 → t' = nI (sw tb.testBit db.testBit ab.testBit once flow (decide (kd = 1)) how into rest before out t).2) := by
  induction fuel with
  | zero => intro rest before out i t _ _ _ _ _ _ h; exact absurd h (Nat.not_lt_zero _)
  | succ fuel ih =>
    intro rest before out i t hr ho hol hi ht hb hf
    have e0 : F_X1_sweep_69L (nI l) (nI ab) (nI db) (b2 once) (b2 flow) (nI tb) vh vi vk (fuel + 1) (nI before) (wl rest) (wl out) (nI i) (nI t) = F_X1_sweep_69 (F_X1_sweep_69L (nI l) (nI ab) (nI db) (b2 once) (b2 flow) (nI tb) vh vi vk fuel) (nI l) (nI ab) (nI db) (b2 once) (b2 flow) (nI tb) (nI before) (wl rest) (wl out) (nI i) (nI t) vh vi vk := rfl
    rw [e0]
    unfold F_X1_sweep_69
    cases rest with
    | nil =>
      have e1 : (if (16 : Int32) ≤ nI i then some (wl out, nI t) else if wl [] ≤ 1 then some (wl out, nI t) else none) = some (wl out, nI t) := by
        split
        · rfl
        · rw [if_pos ((wl_le1 dg_nil (by decide)).mpr rfl)]
      refine ⟨nI t, ?_, fun _ => rfl⟩
      show _ = some (if out.length ≤ 16 then wl out else 0, nI t)
      rw [if_pos hol]
      by_cases c : (16 : Int32) ≤ nI i
      · rw [if_pos c]
      · rw [if_neg c, if_pos ((wl_le1 dg_nil (by decide)).mpr rfl)]
    | cons s rest =>
      rw [List.length_cons] at hi hf
      have hr' := dg_cons.mp hr
      rw [if_neg (show ¬ (16 : Int32) ≤ nI i from nI_ge (a := i) (b := 16) (by omega) (by decide)), if_neg (by rw [wl_le1 hr (by rw [List.length_cons]; omega)]; exact fun q => by cases q), w_last hr (by omega), b1_s, w_wl hr (by omega), b1_s]
      have e2 : (if b2 once = 0 then F_X1_sweep_113 (F_X1_sweep_69L (nI l) (nI ab) (nI db) (b2 once) (b2 flow) (nI tb) vh vi vk fuel) (nI l) (nI ab) (nI db) (b2 once) (b2 flow) (nI tb) (nI before) (wl rest) (wl out) (nI i) (nI s) (nI t) vh vi vk else if nI t ≤ 0 then F_X1_sweep_113 (F_X1_sweep_69L (nI l) (nI ab) (nI db) (b2 once) (b2 flow) (nI tb) vh vi vk fuel) (nI l) (nI ab) (nI db) (b2 once) (b2 flow) (nI tb) (nI before) (wl rest) (wl out) (nI i) (nI s) (nI t) vh vi vk else F_X1_sweep_114 (F_X1_sweep_69L (nI l) (nI ab) (nI db) (b2 once) (b2 flow) (nI tb) vh vi vk fuel) (nI l) (nI ab) (nI db) (b2 once) (b2 flow) (nI tb) (nI before) (wl rest) (wl out) (nI i) (nI s) 1 (nI t) vh vi vk)
          = F_X1_sweep_114 (F_X1_sweep_69L (nI l) (nI ab) (nI db) (b2 once) (b2 flow) (nI tb) vh vi vk fuel) (nI l) (nI ab) (nI db) (b2 once) (b2 flow) (nI tb) (nI before) (wl rest) (wl out) (nI i) (nI s) (b2 (once && decide (0 < t))) (nI t) vh vi vk := by
        unfold F_X1_sweep_113
        cases once with
        | false => rw [if_pos (by decide)]; rfl
        | true =>
          rw [if_neg (by decide)]
          by_cases c : 0 < t
          · rw [if_neg (nI_nle c (by omega))]
            simp [c, b2]
          · have : t = 0 := by omega
            subst this
            rw [if_pos (by decide)]
            rfl
      rw [e2, sp_114 _ _ _ l16 hh how2 hin hi8 hk kd3 hab hdb htb hr'.1 hb hr'.2 (by omega) ho hol _ rfl]
      generalize hh1 : hit tb.testBit db.testBit ab.testBit once flow s before rest out t = h1
      have hsw : sw tb.testBit db.testBit ab.testBit once flow (decide (kd = 1)) how into (s :: rest) before out t = sw tb.testBit db.testBit ab.testBit once flow (decide (kd = 1)) how into rest s (if h1 then chg (decide (kd = 1)) how into s out else s :: out) (if h1 then t + 1 else t) := by
        show (if hit tb.testBit db.testBit ab.testBit once flow s before rest out t then _ else _) = _
        rw [hh1]
        cases h1 <;> rfl
      rw [hsw]
      have ho' : dg (if h1 then chg (decide (kd = 1)) how into s out else s :: out) := by
        split
        · exact chg_dg hi8 hr'.1 ho
        · exact dg_cons.mpr ⟨hr'.1, ho⟩
      have hol' : (if h1 then chg (decide (kd = 1)) how into s out else s :: out).length ≤ 18 := by
        split
        · have := (chg_len (decide (kd = 1)) how into s out).2; omega
        · rw [List.length_cons]; omega
      have ht' : (if h1 then t + 1 else t) ≤ i + 1 := by split <;> omega
      generalize (if h1 then chg (decide (kd = 1)) how into s out else s :: out) = out' at ho' hol' ⊢
      generalize (if h1 then t + 1 else t) = t1 at ht' ⊢
      rw [sp_200 _ _ _ _ _ _ _ _ ho' hol']
      by_cases c : out'.length ≤ 16
      · rw [if_pos c]
        exact ih rest s out' (i + 1) t1 hr'.2 ho' c (by omega) ht' (by omega) (by omega)
      · rw [if_neg c]
        have hlen := sw_len tb.testBit db.testBit ab.testBit once flow (decide (kd = 1)) how into rest s out' t1
        exact ⟨_, by rw [if_neg (by omega)], fun h => absurd h (by omega)⟩
end SWP
