/-! ways through the pure functions -/
theorem ck_ok {β : Type} {i : Int32} {n j : Nat} {X : Option β} (hi : i = nI j) (hj : j < n) (hn : n < 2 ^ 31) : ck_ i n X = X := by
  unfold ck_
  rw [hi, if_neg (nI_in hj hn)]
theorem lt_e {α β : Type} (x : α) (k : α → Option β) : lt_ x k = k x := rfl
theorem b1_s {α β : Type} (a : α) (k : α → Option β) : bn1_ (some a) k = k a := rfl
theorem b2_s {α β γ : Type} (a : α) (b : β) (k : α → β → Option γ) : bn2_ (some (a, b)) k = k a b := rfl
theorem n_lit (n : Nat) : (OfNat.ofNat n : Int32) = nI n := rfl
theorem l_lit (n : Nat) : (OfNat.ofNat n : Int64) = lN n := rfl
/-! words as the class holds them: the last sound is the first of the list -/
def wr : List Nat → Nat
  | [] => 1
  | s :: r => 8 * wr r + s
def dg (r : List Nat) : Prop := ∀ s ∈ r, s < 8
theorem dg_nil : dg [] := fun _ h => by cases h
theorem dg_cons {s : Nat} {r : List Nat} : dg (s :: r) ↔ s < 8 ∧ dg r := ⟨fun h => ⟨h s List.mem_cons_self, fun x hx => h x (List.mem_cons_of_mem _ hx)⟩, fun h x hx => by
  rcases List.mem_cons.mp hx with rfl | hx
  · exact h.1
  · exact h.2 x hx⟩
theorem dg_rev {r : List Nat} : dg r.reverse ↔ dg r := ⟨fun h x hx => h x (List.mem_reverse.mpr hx), fun h x hx => h x (List.mem_reverse.mp hx)⟩
theorem dg_app {a b : List Nat} : dg (a ++ b) ↔ dg a ∧ dg b := ⟨fun h => ⟨fun x hx => h x (List.mem_append_left _ hx), fun x hx => h x (List.mem_append_right _ hx)⟩, fun h x hx => (List.mem_append.mp hx).elim (h.1 x) (h.2 x)⟩
theorem wr_ge {r : List Nat} (h : dg r) : 8 ^ r.length ≤ wr r := by
  induction r with
  | nil => exact Nat.le_refl 1
  | cons s r ih =>
    have := ih (dg_cons.mp h).2
    rw [List.length_cons, Nat.pow_succ]
    show _ ≤ 8 * wr r + s
    omega
theorem wr_lt {r : List Nat} (h : dg r) : wr r < 2 * 8 ^ r.length := by
  induction r with
  | nil => exact (by decide : (1 : Nat) < 2)
  | cons s r ih =>
    have h1 := ih (dg_cons.mp h).2
    have h2 := (dg_cons.mp h).1
    rw [List.length_cons, Nat.pow_succ]
    show 8 * wr r + s < _
    omega
theorem wr_pos {r : List Nat} (h : dg r) : 1 ≤ wr r := Nat.le_trans (Nat.one_le_pow _ _ (by decide)) (wr_ge h)
theorem wr_b {r : List Nat} (h : dg r) (hl : r.length ≤ 20) : wr r < 2 ^ 62 := by
  have h1 := wr_lt h
  have h2 : 8 ^ r.length ≤ 8 ^ 20 := Nat.pow_le_pow_right (by decide) hl
  have h3 : 2 * 8 ^ 20 < 2 ^ 62 := by decide
  omega
theorem wr_inj {a b : List Nat} (ha : dg a) (hb : dg b) (h : wr a = wr b) : a = b := by
  induction a generalizing b with
  | nil =>
    cases b with
    | nil => rfl
    | cons s b =>
      have := wr_pos (dg_cons.mp hb).2
      have h' : 1 = 8 * wr b + s := h
      omega
  | cons s a ih =>
    have ha' := dg_cons.mp ha
    cases b with
    | nil =>
      have := wr_pos ha'.2
      have h' : 8 * wr a + s = 1 := h
      omega
    | cons t b =>
      have hb' := dg_cons.mp hb
      have h' : 8 * wr a + s = 8 * wr b + t := h
      have e1 : s = t := by omega
      have e2 : wr a = wr b := by omega
      rw [e1, ih ha'.2 hb'.2 e2]
theorem wr_1 {r : List Nat} (h : dg r) : wr r ≤ 1 ↔ r = [] := by
  cases r with
  | nil => exact ⟨fun _ => rfl, fun _ => Nat.le_refl 1⟩
  | cons s r =>
    have := wr_pos (dg_cons.mp h).2
    refine ⟨fun h1 => ?_, fun h1 => by cases h1⟩
    have h2 : 8 * wr r + s ≤ 1 := h1
    omega
/-- the class's number of a word -/
def wl (r : List Nat) : Int64 := lN (wr r)
theorem wl_nil : wl [] = 1 := rfl
theorem wl_inj {a b : List Nat} (ha : dg a) (hb : dg b) (la : a.length ≤ 20) (lb : b.length ≤ 20) : wl a = wl b ↔ a = b := by
  have h1 := wr_b ha la
  have h2 := wr_b hb lb
  refine ⟨fun h => wr_inj ha hb ((pk_lEQ (by omega) (by omega)).mp h), fun h => by rw [h]⟩
theorem wl_le1 {r : List Nat} (h : dg r) (hl : r.length ≤ 20) : wl r ≤ 1 ↔ r = [] := by
  have h1 := wr_b h hl
  rw [← wr_1 h]
  exact pk_lLE (b := 1) (by omega) (by decide)
theorem wl_ne0 {r : List Nat} (h : dg r) (hl : r.length ≤ 20) : ¬ wl r = 0 := by
  have h1 := wr_b h hl
  have h2 := wr_pos h
  intro e
  have := (pk_lEQ (a := wr r) (b := 0) (by omega) (by decide)).mp e
  omega
theorem w_last0 : F_X9_last (wl []) = some 8 := by
  unfold F_X9_last F_X9_last_0
  rw [if_pos (by rw [wl_nil]; exact Int64.le_refl 1)]
theorem w_last {s : Nat} {r : List Nat} (h : dg (s :: r)) (hl : r.length ≤ 19) : F_X9_last (wl (s :: r)) = some (nI s) := by
  have h1 := wr_b h (by rw [List.length_cons]; omega)
  have hs := (dg_cons.mp h).1
  unfold F_X9_last F_X9_last_0
  rw [if_neg (by rw [wl_le1 h (by rw [List.length_cons]; omega)]; exact fun q => by cases q)]
  have e : wl (s :: r) &&& 7 = lN s := by
    have := wb_mask (n := wr (s :: r)) (k := 3) (by omega) (by decide)
    have e2 : wr (s :: r) % 2 ^ 3 = s := by
      show (8 * wr r + s) % 8 = s
      omega
    rw [e2] at this
    exact this
  rw [e, lN_i]
theorem w_wl0 : F_X9_withoutLast (wl []) = some (wl []) := by
  unfold F_X9_withoutLast F_X9_withoutLast_0
  rw [if_pos (by rw [wl_nil]; exact Int64.le_refl 1)]
theorem w_wl {s : Nat} {r : List Nat} (h : dg (s :: r)) (hl : r.length ≤ 19) : F_X9_withoutLast (wl (s :: r)) = some (wl r) := by
  have h1 := wr_b h (by rw [List.length_cons]; omega)
  have hs := (dg_cons.mp h).1
  unfold F_X9_withoutLast F_X9_withoutLast_0
  rw [if_neg (by rw [wl_le1 h (by rw [List.length_cons]; omega)]; exact fun q => by cases q)]
  have e : ul_ (wl (s :: r)) 3 = wl r := by
    have := wb_shr (n := wr (s :: r)) (k := 3) (by omega) (by decide)
    have e2 : wr (s :: r) / 2 ^ 3 = wr r := by
      show (8 * wr r + s) / 8 = wr r
      omega
    rw [e2] at this
    exact this
  rw [e]
theorem w_add {s : Nat} {r : List Nat} (h : dg (s :: r)) (hl : r.length ≤ 19) : F_X9_add (wl r) (nI s) = some (wl (s :: r)) := by
  have h1 := wr_b h (by rw [List.length_cons]; omega)
  have hs := (dg_cons.mp h).1
  unfold F_X9_add F_X9_add_0
  have e1 : sl_ (wl r) 3 = lN (2 ^ 3 * wr r) := by
    have := wb_shl (wr r) (k := 3) (by decide)
    rw [Nat.mul_comm] at this
    exact this
  have e2 : nI s &&& 7 = nI s := by
    have := pk_andN (n := s) (by omega) (m := 7) 3 (by decide)
    rw [Nat.mod_eq_of_lt (by omega)] at this
    exact this
  have e3 : Int32.toInt64 (nI s) = lN s := nI_l (by omega)
  rw [e1, e2, e3, fb_or_sumL (wr r) (by omega : s < 2 ^ 3)]
  rfl
theorem w_long {r : List Nat} (h : dg r) (hl : r.length ≤ 20) : F_X9_isTooLong (wl r) = some (if r.length ≤ 16 then 0 else 1) := by
  have h1 := wr_b h hl
  unfold F_X9_isTooLong F_X9_isTooLong_0
  have e : wl r < (2251799813685248 : Int64) ↔ r.length ≤ 16 := by
    have h2 : wl r < (2251799813685248 : Int64) ↔ wr r < 2251799813685248 := pk_lLT (b := 2251799813685248) (by omega) (by decide)
    rw [h2]
    constructor
    · intro h3
      rcases Nat.lt_or_ge 16 r.length with h4 | h4
      · have h5 : 8 ^ 17 ≤ 8 ^ r.length := Nat.pow_le_pow_right (by decide) h4
        have h6 := wr_ge h
        have h7 : (8 : Nat) ^ 17 = 2251799813685248 := by decide
        omega
      · exact h4
    · intro h3
      have h5 : 8 ^ r.length ≤ 8 ^ 16 := Nat.pow_le_pow_right (by decide) h3
      have h6 := wr_lt h
      have h7 : 2 * (8 : Nat) ^ 16 ≤ 2251799813685248 := by decide
      omega
  by_cases c : r.length ≤ 16
  · rw [if_pos (e.mpr c), if_pos c]
  · rw [if_neg (fun q => c (e.mp q)), if_neg c]
/-- size -/
theorem w_sizeL (fuel : Nat) : ∀ (r : List Nat) (i a : Nat), dg r → i + r.length ≤ 16 → r.length < fuel → F_X9_size_7L fuel (nI a) (wl r) (nI i) = some (nI (a + r.length)) := by
  induction fuel with
  | zero => intro r i a _ _ h; exact absurd h (Nat.not_lt_zero _)
  | succ fuel ih =>
    intro r i a hd hi hf
    show F_X9_size_7 (F_X9_size_7L fuel) (nI a) (wl r) (nI i) = _
    unfold F_X9_size_7
    cases r with
    | nil =>
      rw [if_pos ((wl_le1 dg_nil (by decide)).mpr rfl)]
      simp
    | cons s r =>
      rw [List.length_cons] at hi hf
      rw [if_neg (show ¬ (16 : Int32) ≤ nI i from nI_ge (a := i) (b := 16) (by omega) (by decide)), if_neg (by rw [wl_le1 hd (by rw [List.length_cons]; omega)]; exact fun q => by cases q), w_wl hd (by omega)]
      show F_X9_size_7L fuel (nI a + 1) (wl r) (nI i + 1) = _
      rw [nI_1, nI_1, ih r (i + 1) (a + 1) (dg_cons.mp hd).2 (by omega) (by omega)]
      congr 2
      rw [List.length_cons]
      omega
theorem w_size {r : List Nat} (h : dg r) (hl : r.length ≤ 16) : F_X9_size (wl r) = some (nI r.length) := by
  unfold F_X9_size F_X9_size_0
  have := w_sizeL fu_ r 0 0 h (by omega) (by unfold fu_; omega)
  rw [Nat.zero_add] at this
  exact this
/-- turned round -/
theorem w_turnL (fuel : Nat) : ∀ (r t : List Nat) (i : Nat), dg r → dg t → i + r.length ≤ 16 → t.length + r.length ≤ 16 → r.length < fuel → F_X9_turned_16L fuel (wl t) (wl r) (nI i) = some (wl (r.reverse ++ t)) := by
  induction fuel with
  | zero => intro r t i _ _ _ _ h; exact absurd h (Nat.not_lt_zero _)
  | succ fuel ih =>
    intro r t i hd ht hi hl hf
    show F_X9_turned_16 (F_X9_turned_16L fuel) (wl t) (wl r) (nI i) = _
    unfold F_X9_turned_16
    cases r with
    | nil =>
      rw [if_pos ((wl_le1 dg_nil (by decide)).mpr rfl)]
      simp
    | cons s r =>
      rw [List.length_cons] at hi hl hf
      have hd' := dg_cons.mp hd
      rw [if_neg (show ¬ (16 : Int32) ≤ nI i from nI_ge (a := i) (b := 16) (by omega) (by decide)), if_neg (by rw [wl_le1 hd (by rw [List.length_cons]; omega)]; exact fun q => by cases q), w_last hd (by omega), b1_s, w_add (dg_cons.mpr ⟨hd'.1, ht⟩) (by omega), b1_s, w_wl hd (by omega), b1_s, lt_e, nI_1]
      rw [ih r (s :: t) (i + 1) hd'.2 (dg_cons.mpr ⟨hd'.1, ht⟩) (by omega) (by rw [List.length_cons]; omega) (by omega)]
      simp
theorem w_turned {r : List Nat} (h : dg r) (hl : r.length ≤ 16) : F_X9_turned (wl r) = some (wl r.reverse) := by
  unfold F_X9_turned F_X9_turned_0
  rw [if_neg (wl_ne0 h (by omega))]
  have := w_turnL fu_ r [] 0 h dg_nil (by omega) (by simpa using hl) (by unfold fu_; omega)
  rw [List.append_nil] at this
  exact this
theorem w_turned0 : F_X9_turned 0 = some 0 := rfl
theorem wr_div (r : List Nat) (h : dg r) : ∀ k, k ≤ r.length → wr r / 8 ^ k = wr (r.drop k) := by
  induction r with
  | nil => intro k hk; rw [List.length_nil] at hk; rw [show k = 0 by omega]; rfl
  | cons s r ih =>
    intro k hk
    cases k with
    | zero => simp
    | succ k =>
      rw [List.length_cons] at hk
      have h1 := ih (dg_cons.mp h).2 k (by omega)
      rw [List.drop_succ_cons, ← h1, Nat.pow_succ, Nat.mul_comm, ← Nat.div_div_eq_div_mul]
      have : wr (s :: r) / 8 = wr r := by
        have hs := (dg_cons.mp h).1
        show (8 * wr r + s) / 8 = wr r
        omega
      rw [this]
theorem wr_mod {r : List Nat} (h : dg r) {k : Nat} (hk : k < r.length) : wr r / 8 ^ k % 8 = r.getD k 0 := by
  rw [wr_div r h k (by omega), List.drop_eq_getElem_cons hk]
  have hs : r[k] < 8 := h _ (List.getElem_mem hk)
  show (8 * wr (r.drop (k + 1)) + r[k]) % 8 = _
  rw [List.getD_eq_getElem?_getD, List.getElem?_eq_getElem hk]
  simp
  omega
theorem w_at {r : List Nat} (h : dg r) (hl : r.length ≤ 16) {i : Nat} (hi : i < r.length) : F_X9_soundAt (wl r) (nI i) = some (nI (r.getD (r.length - 1 - i) 0)) := by
  have h1 := wr_b h (by omega)
  unfold F_X9_soundAt F_X9_soundAt_0
  rw [w_size h hl, b1_s, lt_e]
  have e1 : nI r.length - 1 - nI i = nI (r.length - 1 - i) := by
    rw [show (1 : Int32) = nI 1 from rfl, pk_sub (by omega), pk_sub (by omega)]
  rw [e1]
  generalize hk : r.length - 1 - i = k
  have hkl : k < r.length := by omega
  have e2 : (3 : Int32) * nI k = nI (3 * k) := pk_mul 3 k
  have e3 : ul_ (wl r) (nI (3 * k)) = lN (wr r / 8 ^ k) := by
    have := wb_shr (n := wr r) (k := 3 * k) (by omega) (by omega)
    rw [Nat.pow_mul] at this
    exact this
  rw [e2, e3, lN_i]
  have e4 := pk_and (nI (wr r / 8 ^ k)) (m := 7) 3 (by decide)
  have e5 : (nI (wr r / 8 ^ k)).toBitVec.toNat % 2 ^ 3 = r.getD k 0 := by
    show (wr r / 8 ^ k) % 2 ^ 32 % 2 ^ 3 = _
    rw [Nat.mod_mod_of_dvd _ (by decide : 2 ^ 3 ∣ 2 ^ 32)]
    exact wr_mod h hkl
  rw [e5] at e4
  rw [e4]
/-- how many words of at most m sounds, of n -/
def hm (n : Nat) : Nat → Nat
  | 0 => 1
  | m + 1 => hm n m + n ^ (m + 1)
theorem hm_b {n m : Nat} (hn : n ≤ 8) (hm4 : m ≤ 4) : hm n m ≤ 4681 := by
  have key : ∀ m, m < 5 → ∀ n, n < 9 → hm n m ≤ 4681 := by decide
  exact key m (by omega) n (by omega)
theorem w_howL (n m : Nat) (hn : n ≤ 8) (hm4 : m ≤ 4) (fuel : Nat) : ∀ k, k ≤ m → m - k < fuel → F_X9_howMany_7L (nI n) (nI m) fuel (nI (n ^ k)) (nI (hm n k)) (nI (k + 1)) = some (nI (hm n m)) := by
  induction fuel with
  | zero => intro k _ h; exact absurd h (Nat.not_lt_zero _)
  | succ fuel ih =>
    intro k hk hf
    show F_X9_howMany_7 (F_X9_howMany_7L (nI n) (nI m) fuel) (nI n) (nI m) (nI (n ^ k)) (nI (hm n k)) (nI (k + 1)) = _
    unfold F_X9_howMany_7
    by_cases c : k = m
    · subst c
      rw [if_pos (nI_lt (by omega) (by omega))]
    · rw [if_neg (nI_nlt (by omega) (by omega)), lt_e, lt_e, lt_e, pk_mul, nI_add, nI_1, ← Nat.pow_succ]
      exact ih (k + 1) (by omega) (by omega)
theorem w_how {n m : Nat} (hn : n ≤ 8) (hm4 : m ≤ 4) : F_X9_howMany (nI n) (nI m) = some (nI (hm n m)) := by
  unfold F_X9_howMany F_X9_howMany_0
  have := w_howL n m hn hm4 fu_ 0 (Nat.zero_le _) (by unfold fu_; omega)
  exact this
/-- the word behind a word, of n sounds -/
def nr (n : Nat) : List Nat → List Nat
  | [] => [0]
  | s :: r => if s + 1 < n then (s + 1) :: r else 0 :: nr n r
theorem nr_dg {n : Nat} (hn : n ≤ 8) {r : List Nat} (h : dg r) : dg (nr n r) := by
  induction r with
  | nil => exact dg_cons.mpr ⟨by decide, dg_nil⟩
  | cons s r ih =>
    have h' := dg_cons.mp h
    unfold nr
    split
    · exact dg_cons.mpr ⟨by omega, h'.2⟩
    · exact dg_cons.mpr ⟨by decide, ih h'.2⟩
theorem nr_len {n : Nat} (r : List Nat) : (nr n r).length ≤ r.length + 1 := by
  induction r with
  | nil => exact Nat.le_refl 1
  | cons s r ih =>
    unfold nr
    split
    · rw [List.length_cons, List.length_cons]; omega
    · rw [List.length_cons, List.length_cons]; omega
theorem wr_zeros (k : Nat) (r : List Nat) : wr (List.replicate k 0 ++ r) = 8 ^ k * wr r := by
  induction k with
  | zero => simp
  | succ k ih =>
    rw [List.replicate_succ, List.cons_append]
    show 8 * wr (List.replicate k 0 ++ r) + 0 = _
    rw [ih, Nat.pow_succ, Nat.add_zero, ← Nat.mul_assoc, Nat.mul_comm 8]
theorem w_nextL (n : Nat) (hn : n ≤ 8) (r0 : List Nat) (h0 : dg r0) (hl : r0.length ≤ 10) (fuel : Nat) : ∀ i, i ≤ r0.length → r0.length - i < fuel → F_X9_next_5L (wl r0) (nI n) fuel (nI (3 * i)) (nI i) = some (wl (List.replicate i 0 ++ nr n (r0.drop i))) := by
  have hb := wr_b h0 (by omega)
  induction fuel with
  | zero => intro i _ h; exact absurd h (Nat.not_lt_zero _)
  | succ fuel ih =>
    intro i hi hf
    show F_X9_next_5 (F_X9_next_5L (wl r0) (nI n) fuel) (wl r0) (nI n) (nI (3 * i)) (nI i) = _
    unfold F_X9_next_5
    have e3 : ul_ (wl r0) (nI (3 * i)) = wl (r0.drop i) := by
      have := wb_shr (n := wr r0) (k := 3 * i) (by omega) (by omega)
      rw [Nat.pow_mul] at this
      rw [show (2 : Nat) ^ 3 = 8 from rfl, wr_div r0 h0 i hi] at this
      exact this
    have hdd : dg (r0.drop i) := fun x hx => h0 x (List.mem_of_mem_drop hx)
    have hdl : (r0.drop i).length = r0.length - i := List.length_drop
    rw [if_neg (show ¬ (16 : Int32) ≤ nI i from nI_ge (a := i) (b := 16) (by omega) (by decide)), e3]
    by_cases c : r0.drop i = []
    · rw [if_pos ((wl_le1 hdd (by omega)).mpr c), c]
      have hil : i = r0.length := by rw [c] at hdl; simp at hdl; omega
      unfold F_X9_next_52
      have e4 : nI (3 * i) + 3 = nI (3 * (i + 1)) := by
        rw [show (3 : Int32) = nI 3 from rfl, nI_add]; rfl
      have e5 := wb_shl 1 (k := 3 * (i + 1)) (by omega)
      rw [e4]
      show some (lN 1 <<< ((nI (3 * (i + 1))).toInt64 &&& 63)) = _
      rw [e5, Nat.pow_mul, Nat.one_mul]
      have e6 := wr_zeros (i + 1) []
      rw [List.append_nil, List.replicate_succ'] at e6
      show _ = some (lN (wr (List.replicate i 0 ++ [0])))
      rw [e6]
      show some (lN ((2 ^ 3) ^ (i + 1))) = some (lN (8 ^ (i + 1) * 1))
      rw [Nat.mul_one]
    · rw [if_neg (fun q => c ((wl_le1 hdd (by omega)).mp q)), lt_e]
      obtain ⟨s, t, hst⟩ : ∃ s t, r0.drop i = s :: t := by
        cases hq : r0.drop i with
        | nil => exact absurd hq c
        | cons s t => exact ⟨s, t, rfl⟩
      rw [hst] at hdd hdl ⊢
      rw [List.length_cons] at hdl
      have hs := (dg_cons.mp hdd).1
      rw [w_last hdd (by omega), b1_s, nI_1]
      unfold nr
      by_cases c2 : s + 1 < n
      · rw [if_neg (nI_ge c2 (by omega)), if_pos c2]
        have e7 : wl (s :: t) + 1 = lN (wr ((s + 1) :: t)) := lN_1 _
        have e8 := wb_shl (wr ((s + 1) :: t)) (k := 3 * i) (by omega)
        rw [e7]
        show some (lN (wr ((s + 1) :: t)) <<< ((nI (3 * i)).toInt64 &&& 63)) = some (lN (wr (List.replicate i 0 ++ (s + 1) :: t)))
        rw [e8, wr_zeros, Nat.pow_mul, Nat.mul_comm]
      · rw [if_pos (nI_le (by omega) (by omega)), if_neg c2, lt_e, lt_e]
        have e4 : nI (3 * i) + 3 = nI (3 * (i + 1)) := by
          rw [show (3 : Int32) = nI 3 from rfl, nI_add]; rfl
        have hd1 : r0.drop (i + 1) = t := by
          rw [← List.drop_drop, hst]; rfl
        rw [e4, nI_1, ih (i + 1) (by omega) (by omega), hd1, List.replicate_succ', List.append_assoc]
        rfl
theorem w_next {n : Nat} (hn : n ≤ 8) {r : List Nat} (h : dg r) (hl : r.length ≤ 10) : F_X9_next (wl r) (nI n) = some (wl (nr n r)) := by
  unfold F_X9_next F_X9_next_0
  have := w_nextL n hn r h hl fu_ 0 (Nat.zero_le _) (by unfold fu_; omega)
  exact this
