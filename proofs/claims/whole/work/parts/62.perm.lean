/-! orders of at most four places -/
def npL : List Nat → Option (List Nat)
  | [a, b] => if a ≤ b then some [b, a] else none
  | [a, b, c] => if b ≤ c then some [a, c, b] else if a ≤ b then (if a ≤ c then some [c, a, b] else some [b, c, a]) else none
  | [a, b, c, d] => if c ≤ d then some [a, b, d, c] else if b ≤ c then (if b ≤ d then some [a, d, b, c] else some [a, c, d, b]) else if a ≤ b then (if a ≤ d then some [d, a, c, b] else if a ≤ c then some [c, d, a, b] else some [b, d, c, a]) else none
  | _ => none
def itP : Nat → List Nat → List Nat
  | 0, p => p
  | i + 1, p => (npL (itP i p)).getD (itP i p)
def Pm (n i : Nat) : List Nat := itP i (List.range n)
def fc (n : Nat) : Nat := if n ≤ 1 then 1 else if n = 2 then 2 else if n = 3 then 6 else 24
theorem Pm_len : ∀ n, n < 5 → ∀ i, i < 24 → i < fc n → (Pm n i).length = n := by decide +kernel
theorem Pm_lt : ∀ n, n < 5 → ∀ i, i < 24 → i < fc n → ∀ s ∈ Pm n i, s < n := by decide +kernel
theorem Pm_nx : ∀ n, n < 5 → ∀ i, i < 24 → i + 1 < fc n → npL (Pm n i) = some (Pm n (i + 1)) := by decide +kernel
theorem Pm_no : ∀ n, n < 5 → ∀ i, i < 24 → i < fc n → fc n ≤ i + 1 → npL (Pm n i) = none := by decide +kernel
theorem fc_le (n : Nat) : 0 < fc n ∧ fc n ≤ 24 := by
  unfold fc
  split
  · omega
  · split
    · omega
    · split <;> omega
/-! the class -/
theorem n_sw {i j : Nat} (hi : i < 4) (hj : j < 4) (f : Nat → Int32) : F_X0_exchangeSeats (nI i) (nI j) f = some (upd (upd f i (f j)) j (f i)) := by
  unfold F_X0_exchangeSeats F_X0_exchangeSeats_0
  rw [ck_ok rfl hi (by decide), lt_e, ck_ok rfl hj (by decide), ck_ok rfl hi (by decide), lt_e, ck_ok rfl hj (by decide), lt_e, nI_clamp (n := i) (by omega), nI_clamp (n := j) (by omega)]
theorem n_83a {lo hi : Nat} (h : lo < hi) (h4 : hi < 4) (f : Nat → Int32) (z : Nat) : F_X0_nextSeats_83L (z + 1) (nI lo) (nI hi) f = F_X0_nextSeats_83L z (nI (lo + 1)) (xj hi) (upd (upd f lo (f hi)) hi (f lo)) := by
  have e0 : F_X0_nextSeats_83L (z + 1) (nI lo) (nI hi) f = F_X0_nextSeats_83 (F_X0_nextSeats_83L z) (nI lo) (nI hi) f := rfl
  rw [e0]
  unfold F_X0_nextSeats_83
  rw [if_neg (nI_ge h (by omega)), n_sw (by omega) h4, b1_s, lt_e, lt_e, nI_1, xj_dec]
theorem n_83b {lo hi : Nat} (h : hi ≤ lo) (h4 : lo < 100) (f : Nat → Int32) (z : Nat) : F_X0_nextSeats_83L (z + 1) (nI lo) (nI hi) f = some (1, f) := by
  have e0 : F_X0_nextSeats_83L (z + 1) (nI lo) (nI hi) f = F_X0_nextSeats_83 (F_X0_nextSeats_83L z) (nI lo) (nI hi) f := rfl
  rw [e0]
  unfold F_X0_nextSeats_83
  rw [if_pos (nI_le h (by omega))]
theorem n_67 {n t g : Nat} (hn : 1 ≤ n) (ht : t < 4) (hg : g < 4) (f : Nat → Int32) : F_X0_nextSeats_67 (nI n) (nI t) (nI g) f = F_X0_nextSeats_83L fu_ (nI (t + 1)) (nI (n - 1)) (upd (upd f t (f g)) g (f t)) := by
  unfold F_X0_nextSeats_67
  rw [n_sw ht hg, b1_s, lt_e, lt_e, nI_1, show (1 : Int32) = nI 1 from rfl, pk_sub hn]
theorem n_41 {n t g : Nat} (ht : t < g) (hg : g < 4) (f : Nat → Int32) (z : Nat) : F_X0_nextSeats_41L (nI n) (nI t) f (z + 1) (nI g) = if f t ≤ f g then F_X0_nextSeats_67 (nI n) (nI t) (nI g) f else F_X0_nextSeats_41L (nI n) (nI t) f z (xj g) := by
  have e0 : F_X0_nextSeats_41L (nI n) (nI t) f (z + 1) (nI g) = F_X0_nextSeats_41 (F_X0_nextSeats_41L (nI n) (nI t) f z) (nI n) (nI t) (nI g) f := rfl
  rw [e0]
  unfold F_X0_nextSeats_41
  rw [if_neg (nI_ge ht (by omega)), ck_ok rfl hg (by decide), ck_ok rfl (show t < 4 by omega) (by decide), lt_e, xj_dec, nI_clamp (n := t) (by omega), nI_clamp (n := g) (by omega)]
theorem n_4 {n t : Nat} (ht : t < 3) (f : Nat → Int32) (z : Nat) : F_X0_nextSeats_4L (nI n) f (z + 1) (nI t) = if f t ≤ f (t + 1) then F_X0_nextSeats_31 (nI n) (nI t) f else F_X0_nextSeats_4L (nI n) f z (xj t) := by
  have e0 : F_X0_nextSeats_4L (nI n) f (z + 1) (nI t) = F_X0_nextSeats_4 (F_X0_nextSeats_4L (nI n) f z) (nI n) (nI t) f := rfl
  rw [e0]
  unfold F_X0_nextSeats_4
  rw [if_neg (nI_pos (by omega)), ck_ok rfl (show t < 4 by omega) (by decide), nI_1, ck_ok rfl (show t + 1 < 4 by omega) (by decide), lt_e, xj_dec, nI_clamp (n := t) (by omega), nI_clamp (n := t + 1) (by omega)]
theorem n_4n {x : Int32} (h : x < 0) (n : Int32) (f : Nat → Int32) (z : Nat) : F_X0_nextSeats_4L n f (z + 1) x = some (0, f) := by
  have e0 : F_X0_nextSeats_4L n f (z + 1) x = F_X0_nextSeats_4 (F_X0_nextSeats_4L n f z) n x f := rfl
  rw [e0]
  unfold F_X0_nextSeats_4 F_X0_nextSeats_31
  rw [if_pos h, if_neg (fa_of_lt h).2.1]
theorem n_31 {n t : Nat} (hn : 1 ≤ n) (ht : t < 4) (f : Nat → Int32) : F_X0_nextSeats_31 (nI n) (nI t) f = F_X0_nextSeats_41L (nI n) (nI t) f fu_ (nI (n - 1)) := by
  unfold F_X0_nextSeats_31
  rw [if_pos (nI_pos' (by omega)), lt_e, show (1 : Int32) = nI 1 from rfl, pk_sub hn]
theorem fu4 : fu_ = 9996 + 1 + 1 + 1 + 1 := rfl
theorem xj2 : xj 2 = nI 1 := rfl
theorem xj3 : xj 3 = nI 2 := rfl
theorem xj1 : xj 1 = nI 0 := rfl
/-- what a next order is, as a relation of arrays -/
def nxt (n : Nat) (p : List Nat) (R : Option (Int32 × (Nat → Int32))) : Prop := (∀ q, npL p = some q → ∃ f', R = some (1, f') ∧ arr f' q) ∧ (npL p = none → ∃ f', R = some (0, f'))
theorem arr4 {f : Nat → Int32} {a b c d : Nat} (h0 : f 0 = nI a) (h1 : f 1 = nI b) (h2 : f 2 = nI c) (h3 : f 3 = nI d) : arr f [a, b, c, d] := fun i hi => by
  have hi4 : i < 4 := hi
  rcases (show i = 0 ∨ i = 1 ∨ i = 2 ∨ i = 3 by omega) with rfl | rfl | rfl | rfl
  · exact h0
  · exact h1
  · exact h2
  · exact h3
theorem arr3 {f : Nat → Int32} {a b c : Nat} (h0 : f 0 = nI a) (h1 : f 1 = nI b) (h2 : f 2 = nI c) : arr f [a, b, c] := fun i hi => by
  have hi4 : i < 3 := hi
  rcases (show i = 0 ∨ i = 1 ∨ i = 2 by omega) with rfl | rfl | rfl
  · exact h0
  · exact h1
  · exact h2
theorem arr2 {f : Nat → Int32} {a b : Nat} (h0 : f 0 = nI a) (h1 : f 1 = nI b) : arr f [a, b] := fun i hi => by
  have hi4 : i < 2 := hi
  rcases (show i = 0 ∨ i = 1 by omega) with rfl | rfl
  · exact h0
  · exact h1
theorem nx_y {n : Nat} {p q : List Nat} {R : Option (Int32 × (Nat → Int32))} {f' : Nat → Int32} (h : npL p = some q) (hR : R = some (1, f')) (ha : arr f' q) : nxt n p R := ⟨fun q' hq => by rw [h] at hq; cases hq; exact ⟨f', hR, ha⟩, fun hq => by rw [h] at hq; cases hq⟩
theorem nx_n {n : Nat} {p : List Nat} {R : Option (Int32 × (Nat → Int32))} {f' : Nat → Int32} (h : npL p = none) (hR : R = some (0, f')) : nxt n p R := ⟨fun q' hq => (by rw [h] at hq; cases hq), fun _ => ⟨f', hR⟩⟩
theorem len_4 {p : List Nat} {n : Nat} (h : p.length = n) (h4 : n ≤ 4) : p = [] ∨ (∃ a, p = [a]) ∨ (∃ a b, p = [a, b]) ∨ (∃ a b c, p = [a, b, c]) ∨ ∃ a b c d, p = [a, b, c, d] := by
  match p, h with
  | [], _ => exact Or.inl rfl
  | [a], _ => exact Or.inr (Or.inl ⟨a, rfl⟩)
  | [a, b], _ => exact Or.inr (Or.inr (Or.inl ⟨a, b, rfl⟩))
  | [a, b, c], _ => exact Or.inr (Or.inr (Or.inr (Or.inl ⟨a, b, c, rfl⟩)))
  | [a, b, c, d], _ => exact Or.inr (Or.inr (Or.inr (Or.inr ⟨a, b, c, d, rfl⟩)))
  | a :: b :: c :: d :: e :: l, h => simp at h; omega
theorem c_nextSeats {n : Nat} (hn : n ≤ 4) {f : Nat → Int32} {p : List Nat} (hp : p.length = n) (hb : ∀ s ∈ p, s < 100) (ha : arr f p) : nxt n p (F_X0_nextSeats (nI n) f) := by
  unfold F_X0_nextSeats F_X0_nextSeats_0
  rw [lt_e]
  rcases len_4 hp hn with rfl | ⟨a, rfl⟩ | ⟨a, b, rfl⟩ | ⟨a, b, c, rfl⟩ | ⟨a, b, c, d, rfl⟩
  · obtain rfl : n = 0 := by simpa using hp.symm
    exact nx_n rfl (n_4n (by decide) _ f 9999)
  · obtain rfl : n = 1 := by simpa using hp.symm
    exact nx_n rfl (n_4n (by decide) _ f 9999)
  · obtain rfl : n = 2 := by simpa using hp.symm
    have h0 : f 0 = nI a := ha 0 (by simp)
    have h1 : f 1 = nI b := ha 1 (by simp)
    have ab := hb a (by simp)
    have bb := hb b (by simp)
    rw [show nI 2 - 2 = nI 0 by decide]
    rw [fu4, n_4 (by decide), h0, h1]
    by_cases c1 : a ≤ b
    · have c1' : nI a ≤ nI b := nI_le c1 (by omega)
      apply nx_y (q := [b, a]) (by show (if a ≤ b then _ else _) = _; rw [if_pos c1])
      · rw [if_pos c1', n_31 (by decide) (by decide), fu4, n_41 (by decide) (by decide), h0, h1, if_pos c1', n_67 (by decide) (by decide) (by decide), fu4, n_83b (by decide) (by decide)]
      · exact arr2 (by rw [pk_un (by decide), pk_us]; exact h1) (by rw [pk_us]; exact h0)
    · apply nx_n (by show (if a ≤ b then _ else _) = _; rw [if_neg c1])
      · rw [if_neg (nI_ge (by omega) (by omega)), n_4n (by decide)]
  · obtain rfl : n = 3 := by simpa using hp.symm
    have h0 : f 0 = nI a := ha 0 (by simp)
    have h1 : f 1 = nI b := ha 1 (by simp)
    have h2 : f 2 = nI c := ha 2 (by simp)
    have ab := hb a (by simp)
    have bb := hb b (by simp)
    have cb := hb c (by simp)
    rw [show nI 3 - 2 = nI 1 by decide]
    rw [fu4, n_4 (by decide), h1, h2]
    by_cases c1 : b ≤ c
    · have c1' : nI b ≤ nI c := nI_le c1 (by omega)
      apply nx_y (q := [a, c, b]) (by show (if b ≤ c then _ else _) = _; rw [if_pos c1])
      · rw [if_pos c1', n_31 (by decide) (by decide), fu4, n_41 (by decide) (by decide), h1, h2, if_pos c1', n_67 (by decide) (by decide) (by decide), fu4, n_83b (by decide) (by decide)]
      · exact arr3 (by rw [pk_un (by decide), pk_un (by decide)]; exact h0) (by rw [pk_un (by decide), pk_us]; exact h2) (by rw [pk_us]; exact h1)
    · rw [if_neg (show ¬ nI b ≤ nI c from nI_ge (by omega) (by omega)), xj1, n_4 (by decide), h0, h1]
      by_cases c2 : a ≤ b
      · have c2' : nI a ≤ nI b := nI_le c2 (by omega)
        rw [if_pos c2', n_31 (by decide) (by decide), fu4, n_41 (by decide) (by decide), h0, h2]
        by_cases c3 : a ≤ c
        · apply nx_y (q := [c, a, b]) (by show (if b ≤ c then _ else if a ≤ b then _ else _) = _; rw [if_neg c1, if_pos c2, if_pos c3])
          · rw [if_pos (nI_le c3 (by omega)), n_67 (by decide) (by decide) (by decide), fu4, n_83a (by decide) (by decide), xj2, n_83b (by decide) (by decide)]
          · exact arr3 (by rw [pk_un (by decide), pk_un (by decide), pk_un (by decide), pk_us]; exact h2) (by rw [pk_un (by decide), pk_us, pk_us]; exact h0) (by rw [pk_us, pk_un (by decide), pk_un (by decide)]; exact h1)
        · apply nx_y (q := [b, c, a]) (by show (if b ≤ c then _ else if a ≤ b then _ else _) = _; rw [if_neg c1, if_pos c2, if_neg c3])
          · rw [if_neg (nI_ge (by omega) (by omega)), xj2, n_41 (by decide) (by decide), h0, h1, if_pos c2', n_67 (by decide) (by decide) (by decide), fu4, n_83a (by decide) (by decide), xj2, n_83b (by decide) (by decide)]
          · exact arr3 (by rw [pk_un (by decide), pk_un (by decide), pk_un (by decide), pk_us]; exact h1) (by rw [pk_un (by decide), pk_us, pk_un (by decide), pk_un (by decide)]; exact h2) (by rw [pk_us, pk_us]; exact h0)
      · apply nx_n (by show (if b ≤ c then _ else if a ≤ b then _ else _) = _; rw [if_neg c1, if_neg c2])
        · rw [if_neg (nI_ge (by omega) (by omega)), n_4n (by decide)]
  · obtain rfl : n = 4 := by simpa using hp.symm
    have h0 : f 0 = nI a := ha 0 (by simp)
    have h1 : f 1 = nI b := ha 1 (by simp)
    have h2 : f 2 = nI c := ha 2 (by simp)
    have h3 : f 3 = nI d := ha 3 (by simp)
    have ab := hb a (by simp)
    have bb := hb b (by simp)
    have cb := hb c (by simp)
    have db := hb d (by simp)
    rw [show nI 4 - 2 = nI 2 by decide]
    rw [fu4, n_4 (by decide), h2, h3]
    by_cases c1 : c ≤ d
    · have c1' : nI c ≤ nI d := nI_le c1 (by omega)
      apply nx_y (q := [a, b, d, c]) (by show (if c ≤ d then _ else _) = _; rw [if_pos c1])
      · rw [if_pos c1', n_31 (by decide) (by decide), fu4, n_41 (by decide) (by decide), h2, h3, if_pos c1', n_67 (by decide) (by decide) (by decide), fu4, n_83b (by decide) (by decide)]
      · exact arr4 (by rw [pk_un (by decide), pk_un (by decide)]; exact h0) (by rw [pk_un (by decide), pk_un (by decide)]; exact h1) (by rw [pk_un (by decide), pk_us]; exact h3) (by rw [pk_us]; exact h2)
    · rw [if_neg (show ¬ nI c ≤ nI d from nI_ge (by omega) (by omega)), xj2, n_4 (by decide), h1, h2]
      by_cases c2 : b ≤ c
      · have c2' : nI b ≤ nI c := nI_le c2 (by omega)
        rw [if_pos c2', n_31 (by decide) (by decide), fu4, n_41 (by decide) (by decide), h1, h3]
        by_cases c3 : b ≤ d
        · apply nx_y (q := [a, d, b, c]) (by show (if c ≤ d then _ else if b ≤ c then _ else _) = _; rw [if_neg c1, if_pos c2, if_pos c3])
          · rw [if_pos (nI_le c3 (by omega)), n_67 (by decide) (by decide) (by decide), fu4, n_83a (by decide) (by decide), xj3, n_83b (by decide) (by decide)]
          · exact arr4 (by rw [pk_un (by decide), pk_un (by decide), pk_un (by decide), pk_un (by decide)]; exact h0) (by rw [pk_un (by decide), pk_un (by decide), pk_un (by decide), pk_us]; exact h3) (by rw [pk_un (by decide), pk_us, pk_us]; exact h1) (by rw [pk_us, pk_un (by decide), pk_un (by decide)]; exact h2)
        · apply nx_y (q := [a, c, d, b]) (by show (if c ≤ d then _ else if b ≤ c then _ else _) = _; rw [if_neg c1, if_pos c2, if_neg c3])
          · rw [if_neg (nI_ge (by omega) (by omega)), xj3, n_41 (by decide) (by decide), h1, h2, if_pos c2', n_67 (by decide) (by decide) (by decide), fu4, n_83a (by decide) (by decide), xj3, n_83b (by decide) (by decide)]
          · exact arr4 (by rw [pk_un (by decide), pk_un (by decide), pk_un (by decide), pk_un (by decide)]; exact h0) (by rw [pk_un (by decide), pk_un (by decide), pk_un (by decide), pk_us]; exact h2) (by rw [pk_un (by decide), pk_us, pk_un (by decide), pk_un (by decide)]; exact h3) (by rw [pk_us, pk_us]; exact h1)
      · rw [if_neg (show ¬ nI b ≤ nI c from nI_ge (by omega) (by omega)), xj1, n_4 (by decide), h0, h1]
        by_cases c4 : a ≤ b
        · have c4' : nI a ≤ nI b := nI_le c4 (by omega)
          rw [if_pos c4', n_31 (by decide) (by decide), fu4, n_41 (by decide) (by decide), h0, h3]
          by_cases c5 : a ≤ d
          · apply nx_y (q := [d, a, c, b]) (by show (if c ≤ d then _ else if b ≤ c then _ else if a ≤ b then _ else _) = _; rw [if_neg c1, if_neg c2, if_pos c4, if_pos c5])
            · rw [if_pos (nI_le c5 (by omega)), n_67 (by decide) (by decide) (by decide), fu4, n_83a (by decide) (by decide), xj3, n_83b (by decide) (by decide)]
            · exact arr4 (by rw [pk_un (by decide), pk_un (by decide), pk_un (by decide), pk_us]; exact h3) (by rw [pk_un (by decide), pk_us, pk_us]; exact h0) (by rw [pk_un (by decide), pk_un (by decide), pk_un (by decide), pk_un (by decide)]; exact h2) (by rw [pk_us, pk_un (by decide), pk_un (by decide)]; exact h1)
          · rw [if_neg (show ¬ nI a ≤ nI d from nI_ge (by omega) (by omega)), xj3, n_41 (by decide) (by decide), h0, h2]
            by_cases c6 : a ≤ c
            · apply nx_y (q := [c, d, a, b]) (by show (if c ≤ d then _ else if b ≤ c then _ else if a ≤ b then _ else _) = _; rw [if_neg c1, if_neg c2, if_pos c4, if_neg c5, if_pos c6])
              · rw [if_pos (nI_le c6 (by omega)), n_67 (by decide) (by decide) (by decide), fu4, n_83a (by decide) (by decide), xj3, n_83b (by decide) (by decide)]
              · exact arr4 (by rw [pk_un (by decide), pk_un (by decide), pk_un (by decide), pk_us]; exact h2) (by rw [pk_un (by decide), pk_us, pk_un (by decide), pk_un (by decide)]; exact h3) (by rw [pk_un (by decide), pk_un (by decide), pk_us]; exact h0) (by rw [pk_us, pk_un (by decide), pk_un (by decide)]; exact h1)
            · apply nx_y (q := [b, d, c, a]) (by show (if c ≤ d then _ else if b ≤ c then _ else if a ≤ b then _ else _) = _; rw [if_neg c1, if_neg c2, if_pos c4, if_neg c5, if_neg c6])
              · rw [if_neg (nI_ge (by omega) (by omega)), xj2, n_41 (by decide) (by decide), h0, h1, if_pos c4', n_67 (by decide) (by decide) (by decide), fu4, n_83a (by decide) (by decide), xj3, n_83b (by decide) (by decide)]
              · exact arr4 (by rw [pk_un (by decide), pk_un (by decide), pk_un (by decide), pk_us]; exact h1) (by rw [pk_un (by decide), pk_us, pk_un (by decide), pk_un (by decide)]; exact h3) (by rw [pk_un (by decide), pk_un (by decide), pk_un (by decide), pk_un (by decide)]; exact h2) (by rw [pk_us, pk_us]; exact h0)
        · apply nx_n (by show (if c ≤ d then _ else if b ≤ c then _ else if a ≤ b then _ else _) = _; rw [if_neg c1, if_neg c2, if_neg c4])
          · rw [if_neg (nI_ge (by omega) (by omega)), n_4n (by decide)]
