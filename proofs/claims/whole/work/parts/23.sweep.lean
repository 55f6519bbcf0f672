theorem e0_ {a : Nat} (h : a < 2 ^ 31) : nI a = 0 ↔ a = 0 := nI_eq (b := 0) h (by decide)
theorem e1_ {a : Nat} (h : a < 2 ^ 31) : nI a = 1 ↔ a = 1 := nI_eq (b := 1) h (by decide)
theorem e2_ {a : Nat} (h : a < 2 ^ 31) : nI a = 2 ↔ a = 2 := nI_eq (b := 2) h (by decide)
theorem e3_ {a : Nat} (h : a < 2 ^ 31) : nI a = 3 ↔ a = 3 := nI_eq (b := 3) h (by decide)
theorem e4_ {a : Nat} (h : a < 2 ^ 31) : nI a = 4 ↔ a = 4 := nI_eq (b := 4) h (by decide)
theorem e5_ {a : Nat} (h : a < 2 ^ 31) : nI a = 5 ↔ a = 5 := nI_eq (b := 5) h (by decide)
theorem e6_ {a : Nat} (h : a < 2 ^ 31) : nI a = 6 ↔ a = 6 := nI_eq (b := 6) h (by decide)
theorem e7_ {a : Nat} (h : a < 2 ^ 31) : nI a = 7 ↔ a = 7 := nI_eq (b := 7) h (by decide)
theorem e8_ {a : Nat} (h : a < 2 ^ 31) : nI a = 8 ↔ a = 8 := nI_eq (b := 8) h (by decide)
/-! one law on one word: what comes of it, as a list -/
def hd8 : List Nat → Nat
  | [] => 8
  | s :: _ => s
theorem hd8_le {r : List Nat} (h : dg r) : hd8 r ≤ 8 := by
  cases r with
  | nil => exact Nat.le_refl 8
  | cons s r => have := (dg_cons.mp h).1; show s ≤ 8; omega
def chg (lft : Bool) (how into s : Nat) (out : List Nat) : List Nat := if how = 1 then out else if how = 0 then into :: out else if lft then s :: into :: out else into :: s :: out
def hit (T D A : Nat → Bool) (once flow : Bool) (s before : Nat) (rest out : List Nat) (t : Nat) : Bool := !(once && decide (0 < t)) && (T s && (D (if flow then hd8 out else before) && A (hd8 rest)))
def sw (T D A : Nat → Bool) (once flow lft : Bool) (how into : Nat) : List Nat → Nat → List Nat → Nat → List Nat × Nat
  | [], _, out, t => (out, t)
  | s :: rest, before, out, t => if hit T D A once flow s before rest out t then sw T D A once flow lft how into rest s (chg lft how into s out) (t + 1) else sw T D A once flow lft how into rest s (s :: out) t
theorem chg_len (lft : Bool) (how into s : Nat) (out : List Nat) : out.length ≤ (chg lft how into s out).length ∧ (chg lft how into s out).length ≤ out.length + 2 := by
  unfold chg
  split
  · omega
  · split
    · simp
    · split <;> (simp only [List.length_cons]; omega)
theorem chg_dg {lft : Bool} {how into s : Nat} {out : List Nat} (hi : into < 8) (hs : s < 8) (ho : dg out) : dg (chg lft how into s out) := by
  unfold chg
  split
  · exact ho
  · split
    · exact dg_cons.mpr ⟨hi, ho⟩
    · split
      · exact dg_cons.mpr ⟨hs, dg_cons.mpr ⟨hi, ho⟩⟩
      · exact dg_cons.mpr ⟨hi, dg_cons.mpr ⟨hs, ho⟩⟩
theorem sw_len (T D A : Nat → Bool) (once flow lft : Bool) (how into : Nat) : ∀ (rest : List Nat) (before : Nat) (out : List Nat) (t : Nat), out.length ≤ (sw T D A once flow lft how into rest before out t).1.length := by
  intro rest
  induction rest with
  | nil => intro before out t; exact Nat.le_refl _
  | cons s rest ih =>
    intro before out t
    unfold sw
    split
    · exact Nat.le_trans (chg_len lft how into s out).1 (ih s _ _)
    · exact Nat.le_trans (by simp) (ih s (s :: out) t)
theorem sw_len2 (T D A : Nat → Bool) (once flow lft : Bool) (how into : Nat) : ∀ (rest : List Nat) (before : Nat) (out : List Nat) (t : Nat), (sw T D A once flow lft how into rest before out t).1.length ≤ out.length + 2 * rest.length := by
  intro rest
  induction rest with
  | nil => intro before out t; exact Nat.le_refl _
  | cons s rest ih =>
    intro before out t
    unfold sw
    rw [List.length_cons]
    split
    · have h1 := (chg_len lft how into s out).2
      have h2 := ih s (chg lft how into s out) (t + 1)
      omega
    · have h2 := ih s (s :: out) t
      rw [List.length_cons] at h2
      omega
theorem sw_dg {T D A : Nat → Bool} {once flow lft : Bool} {how into : Nat} (hi : into < 8) : ∀ (rest : List Nat) (before : Nat) (out : List Nat) (t : Nat), dg rest → dg out → dg (sw T D A once flow lft how into rest before out t).1 := by
  intro rest
  induction rest with
  | nil => intro before out t _ ho; exact ho
  | cons s rest ih =>
    intro before out t hr ho
    have hr' := dg_cons.mp hr
    unfold sw
    split
    · exact ih s _ _ hr'.2 (chg_dg hi hr'.1 ho)
    · exact ih s _ _ hr'.2 (dg_cons.mpr ⟨hr'.1, ho⟩)
theorem sw_t (T D A : Nat → Bool) (once flow lft : Bool) (how into : Nat) : ∀ (rest : List Nat) (before : Nat) (out : List Nat) (t : Nat), (sw T D A once flow lft how into rest before out t).2 ≤ t + rest.length := by
  intro rest
  induction rest with
  | nil => intro before out t; exact Nat.le_refl _
  | cons s rest ih =>
    intro before out t
    unfold sw
    rw [List.length_cons]
    split
    · have h2 := ih s (chg lft how into s out) (t + 1)
      omega
    · have h2 := ih s (s :: out) t
      omega
/-! the class's bits -/
theorem sh_amt : ∀ s, s < 32 → ((nI s &&& 31).toBitVec.smod 32).toNat = s := by decide +kernel
theorem is_in {bt s : Nat} (hb : bt < 2 ^ 31) (hs : s < 32) : F_X1_isIn (nI bt) (nI s) = some (if bt.testBit s then 1 else 0) := by
  unfold F_X1_isIn F_X1_isIn_0
  have e1 := pk_shrN hb (nI s &&& 31) s (sh_amt s hs)
  have e2 := pk_andN (n := bt / 2 ^ s) (Nat.lt_of_le_of_lt (Nat.div_le_self _ _) (by omega)) (m := 1) 1 (by decide)
  rw [e1, e2]
  have e3 : bt.testBit s = decide (bt / 2 ^ s % 2 ^ 1 = 1) := by
    rw [Nat.testBit_eq_decide_div_mod_eq]
  have h2 : bt / 2 ^ s % 2 ^ 1 < 2 := Nat.mod_lt _ (by decide)
  have e4 : nI (bt / 2 ^ s % 2 ^ 1) = 1 ↔ bt / 2 ^ s % 2 ^ 1 = 1 := nI_eq (b := 1) (by omega) (by decide)
  rw [e3]
  by_cases c : bt / 2 ^ s % 2 ^ 1 = 1
  · rw [if_pos (e4.mpr c)]
    simp [c]
  · rw [if_neg (fun q => c (e4.mp q))]
    simp [c]
theorem w_lasth {r : List Nat} (h : dg r) (hl : r.length ≤ 20) : F_X9_last (wl r) = some (nI (hd8 r)) := by
  cases r with
  | nil => exact w_last0
  | cons s r => rw [List.length_cons] at hl; exact w_last h (by omega)
theorem ad_chg {law : Int32} {l s into how kd : Nat} {out : List Nat} {vh vi vk : Nat → Int32} (hl : law = nI l) (l16 : l < 16) (hh : vh l = nI how) (how2 : how ≤ 2) (hin : vi l = nI into) (hi8 : into < 8) (hk : vk l = nI kd) (kd3 : kd ≤ 3) (hs : s < 8) (ho : dg out) (hol : out.length ≤ 16) :
    F_X1_addChanged law (wl out) (nI s) vh vi vk = some (wl (chg (decide (kd = 1)) how into s out)) := by
  subst hl
  have cl : (nI l).toNatClampNeg = l := nI_clamp (by omega)
  unfold F_X1_addChanged F_X1_addChanged_0
  rw [ck_ok rfl l16 (by decide), cl, hh, hin, hk]
  unfold chg
  by_cases c1 : how = 1
  · rw [if_pos ((e1_ (by omega)).mpr c1), if_pos c1]
  · rw [if_neg (fun q => c1 ((e1_ (by omega)).mp q)), if_neg c1, ck_ok rfl l16 (by decide)]
    by_cases c0 : how = 0
    · rw [if_pos ((e0_ (by omega)).mpr c0), if_pos c0, ck_ok rfl l16 (by decide), w_add (dg_cons.mpr ⟨hi8, ho⟩) (by omega)]
      rfl
    · rw [if_neg (fun q => c0 ((e0_ (by omega)).mp q)), if_neg c0, ck_ok rfl l16 (by decide)]
      by_cases ck : kd = 1
      · rw [if_pos ((e1_ (by omega)).mpr ck), ck_ok rfl l16 (by decide), w_add (dg_cons.mpr ⟨hi8, ho⟩) (by omega), b1_s, w_add (dg_cons.mpr ⟨hs, dg_cons.mpr ⟨hi8, ho⟩⟩) (by rw [List.length_cons]; omega)]
        simp [ck, bn1_]
      · rw [if_neg (fun q => ck ((e1_ (by omega)).mp q)), w_add (dg_cons.mpr ⟨hs, ho⟩) (by omega), b1_s, ck_ok rfl l16 (by decide), w_add (dg_cons.mpr ⟨hi8, dg_cons.mpr ⟨hs, ho⟩⟩) (by rw [List.length_cons]; omega)]
        simp [ck, bn1_]
