/-! orders: the reference -/
theorem o_sw {i j : Nat} (hi : i < 4) (hj : j < 4) (f : Nat → Int32) : F_X11_swapPlaces (nI i) (nI j) f = some (upd (upd f i (f j)) j (f i)) := by
  unfold F_X11_swapPlaces F_X11_swapPlaces_0
  rw [ck_ok rfl (show i < 6 by omega) (by decide), lt_e, ck_ok rfl (show j < 6 by omega) (by decide), ck_ok rfl (show i < 6 by omega) (by decide), lt_e, ck_ok rfl (show j < 6 by omega) (by decide), lt_e, nI_clamp (n := i) (by omega), nI_clamp (n := j) (by omega)]
theorem o_83a {lo hi : Nat} (h : lo < hi) (h4 : hi < 4) (f : Nat → Int32) (z : Nat) : F_X11_nextOrder_78L (z + 1) (nI lo) (nI hi) f = F_X11_nextOrder_78L z (nI (lo + 1)) (xj hi) (upd (upd f lo (f hi)) hi (f lo)) := by
  have e0 : F_X11_nextOrder_78L (z + 1) (nI lo) (nI hi) f = F_X11_nextOrder_78 (F_X11_nextOrder_78L z) (nI lo) (nI hi) f := rfl
  rw [e0]
  unfold F_X11_nextOrder_78
  rw [if_neg (nI_ge h (by omega)), o_sw (by omega) h4, b1_s, lt_e, lt_e, nI_1, xj_dec]
theorem o_83b {lo hi : Nat} (h : hi ≤ lo) (h4 : lo < 100) (f : Nat → Int32) (z : Nat) : F_X11_nextOrder_78L (z + 1) (nI lo) (nI hi) f = some (1, f) := by
  have e0 : F_X11_nextOrder_78L (z + 1) (nI lo) (nI hi) f = F_X11_nextOrder_78 (F_X11_nextOrder_78L z) (nI lo) (nI hi) f := rfl
  rw [e0]
  unfold F_X11_nextOrder_78
  rw [if_pos (nI_le h (by omega))]
def o67 (n t g : Nat) (f : Nat → Int32) : Option (Int32 × (Nat → Int32)) := F_X11_nextOrder_78L fu_ (nI (t + 1)) (nI (n - 1)) (upd (upd f t (f g)) g (f t))
theorem o_67 {n t g : Nat} (hn : 1 ≤ n) (ht : t < 4) (hg : g < 4) {f : Nat → Int32} : o67 n t g f = F_X11_nextOrder_78L fu_ (nI (t + 1)) (nI (n - 1)) (upd (upd f t (f g)) g (f t)) := rfl
theorem o_41' {n t g : Nat} (hn : 1 ≤ n) (ht : t < g) (hg : g < 4) (f : Nat → Int32) (z : Nat) : F_X11_nextOrder_41L (nI n) (nI t) (z + 1) (nI g) f = if f t ≤ f g then o67 n t g f else F_X11_nextOrder_41L (nI n) (nI t) z (xj g) f := by
  have e0 : F_X11_nextOrder_41L (nI n) (nI t) (z + 1) (nI g) f = F_X11_nextOrder_41 (F_X11_nextOrder_41L (nI n) (nI t) z) (nI n) (nI t) (nI g) f := rfl
  rw [e0]
  unfold F_X11_nextOrder_41 o67
  rw [ck_ok rfl (show g < 6 by omega) (by decide), ck_ok rfl (show t < 6 by omega) (by decide), o_sw (by omega) hg, b1_s, lt_e, lt_e, lt_e, xj_dec, nI_1, show (1 : Int32) = nI 1 from rfl, pk_sub hn, nI_clamp (n := t) (by omega), nI_clamp (n := g) (by omega)]
def o41 (n t : Nat) (f : Nat → Int32) (z : Nat) (g : Int32) : Option (Int32 × (Nat → Int32)) := F_X11_nextOrder_41L (nI n) (nI t) z g f
theorem o_41 {n t g : Nat} (hn : 1 ≤ n) (ht : t < g) (hg : g < 4) {f : Nat → Int32} {z : Nat} : o41 n t f (z + 1) (nI g) = if f t ≤ f g then o67 n t g f else o41 n t f z (xj g) := o_41' hn ht hg f z
def o31 (n t : Nat) (f : Nat → Int32) : Option (Int32 × (Nat → Int32)) := F_X11_nextOrder_31 (nI n) (nI t) f
theorem o_31 {n t : Nat} (hn : 1 ≤ n) (ht : t < 4) {f : Nat → Int32} : o31 n t f = o41 n t f fu_ (nI (n - 1)) := by
  unfold o31 o41 F_X11_nextOrder_31
  rw [if_pos (nI_pos' (by omega)), lt_e, show (1 : Int32) = nI 1 from rfl, pk_sub hn]
theorem o_4 {n t : Nat} (ht : t < 3) (f : Nat → Int32) (z : Nat) : F_X11_nextOrder_4L (nI n) f (z + 1) (nI t) = if f t ≤ f (t + 1) then o31 n t f else F_X11_nextOrder_4L (nI n) f z (xj t) := by
  have e0 : F_X11_nextOrder_4L (nI n) f (z + 1) (nI t) = F_X11_nextOrder_4 (F_X11_nextOrder_4L (nI n) f z) (nI n) (nI t) f := rfl
  rw [e0]
  unfold F_X11_nextOrder_4 o31
  rw [if_neg (nI_pos (by omega)), ck_ok rfl (show t < 6 by omega) (by decide), nI_1, ck_ok rfl (show t + 1 < 6 by omega) (by decide), lt_e, xj_dec, nI_clamp (n := t) (by omega), nI_clamp (n := t + 1) (by omega)]
theorem o_4n {x : Int32} (h : x < 0) (n : Int32) (f : Nat → Int32) (z : Nat) : F_X11_nextOrder_4L n f (z + 1) x = some (0, f) := by
  have e0 : F_X11_nextOrder_4L n f (z + 1) x = F_X11_nextOrder_4 (F_X11_nextOrder_4L n f z) n x f := rfl
  rw [e0]
  unfold F_X11_nextOrder_4 F_X11_nextOrder_31
  rw [if_pos h, if_neg (fa_of_lt h).2.1]
theorem m_nextOrder {n : Nat} (hn : n ≤ 4) {f : Nat → Int32} {p : List Nat} (hp : p.length = n) (hb : ∀ s ∈ p, s < 100) (ha : arr f p) : nxt n p (F_X11_nextOrder (nI n) f) := by
  unfold F_X11_nextOrder F_X11_nextOrder_0
  rw [lt_e]
  rcases len_4 hp hn with rfl | ⟨a, rfl⟩ | ⟨a, b, rfl⟩ | ⟨a, b, c, rfl⟩ | ⟨a, b, c, d, rfl⟩
  · obtain rfl : n = 0 := by simpa using hp.symm
    exact nx_n rfl (o_4n (by decide) _ f 9999)
  · obtain rfl : n = 1 := by simpa using hp.symm
    exact nx_n rfl (o_4n (by decide) _ f 9999)
  · obtain rfl : n = 2 := by simpa using hp.symm
    have h0 : f 0 = nI a := ha 0 (by simp)
    have h1 : f 1 = nI b := ha 1 (by simp)
    have ab := hb a (by simp)
    have bb := hb b (by simp)
    rw [show nI 2 - 2 = nI 0 by decide]
    rw [fu4, o_4 (by decide), h0, h1]
    by_cases c1 : a ≤ b
    · have c1' : nI a ≤ nI b := nI_le c1 (by omega)
      apply nx_y (q := [b, a]) (by show (if a ≤ b then _ else _) = _; rw [if_pos c1])
      · rw [if_pos c1', o_31 (by decide) (by decide), fu4, o_41 (by decide) (by decide) (by decide), h0, h1, if_pos c1', o_67 (by decide) (by decide) (by decide), fu4, o_83b (by decide) (by decide)]
      · exact arr2 (by rw [pk_un (by decide), pk_us]; exact h1) (by rw [pk_us]; exact h0)
    · apply nx_n (by show (if a ≤ b then _ else _) = _; rw [if_neg c1])
      · rw [if_neg (nI_ge (by omega) (by omega)), o_4n (by decide)]
  · obtain rfl : n = 3 := by simpa using hp.symm
    have h0 : f 0 = nI a := ha 0 (by simp)
    have h1 : f 1 = nI b := ha 1 (by simp)
    have h2 : f 2 = nI c := ha 2 (by simp)
    have ab := hb a (by simp)
    have bb := hb b (by simp)
    have cb := hb c (by simp)
    rw [show nI 3 - 2 = nI 1 by decide]
    rw [fu4, o_4 (by decide), h1, h2]
    by_cases c1 : b ≤ c
    · have c1' : nI b ≤ nI c := nI_le c1 (by omega)
      apply nx_y (q := [a, c, b]) (by show (if b ≤ c then _ else _) = _; rw [if_pos c1])
      · rw [if_pos c1', o_31 (by decide) (by decide), fu4, o_41 (by decide) (by decide) (by decide), h1, h2, if_pos c1', o_67 (by decide) (by decide) (by decide), fu4, o_83b (by decide) (by decide)]
      · exact arr3 (by rw [pk_un (by decide), pk_un (by decide)]; exact h0) (by rw [pk_un (by decide), pk_us]; exact h2) (by rw [pk_us]; exact h1)
    · rw [if_neg (show ¬ nI b ≤ nI c from nI_ge (by omega) (by omega)), xj1, o_4 (by decide), h0, h1]
      by_cases c2 : a ≤ b
      · have c2' : nI a ≤ nI b := nI_le c2 (by omega)
        rw [if_pos c2', o_31 (by decide) (by decide), fu4, o_41 (by decide) (by decide) (by decide), h0, h2]
        by_cases c3 : a ≤ c
        · apply nx_y (q := [c, a, b]) (by show (if b ≤ c then _ else if a ≤ b then _ else _) = _; rw [if_neg c1, if_pos c2, if_pos c3])
          · rw [if_pos (nI_le c3 (by omega)), o_67 (by decide) (by decide) (by decide), fu4, o_83a (by decide) (by decide), xj2, o_83b (by decide) (by decide)]
          · exact arr3 (by rw [pk_un (by decide), pk_un (by decide), pk_un (by decide), pk_us]; exact h2) (by rw [pk_un (by decide), pk_us, pk_us]; exact h0) (by rw [pk_us, pk_un (by decide), pk_un (by decide)]; exact h1)
        · apply nx_y (q := [b, c, a]) (by show (if b ≤ c then _ else if a ≤ b then _ else _) = _; rw [if_neg c1, if_pos c2, if_neg c3])
          · rw [if_neg (nI_ge (by omega) (by omega)), xj2, o_41 (by decide) (by decide) (by decide), h0, h1, if_pos c2', o_67 (by decide) (by decide) (by decide), fu4, o_83a (by decide) (by decide), xj2, o_83b (by decide) (by decide)]
          · exact arr3 (by rw [pk_un (by decide), pk_un (by decide), pk_un (by decide), pk_us]; exact h1) (by rw [pk_un (by decide), pk_us, pk_un (by decide), pk_un (by decide)]; exact h2) (by rw [pk_us, pk_us]; exact h0)
      · apply nx_n (by show (if b ≤ c then _ else if a ≤ b then _ else _) = _; rw [if_neg c1, if_neg c2])
        · rw [if_neg (nI_ge (by omega) (by omega)), o_4n (by decide)]
  · obtain rfl : n = 4 := by simpa using hp.symm
    have h0 : f 0 = nI a := ha 0 (by simp)
    have h1 : f 1 = nI b := ha 1 (by simp)
    have h2 : f 2 = nI c := ha 2 (by simp)
    have h3 : f 3 = nI d := ha 3 (by simp)
    have ab := hb a (by simp)
    have bb := hb b (by simp)
    have cb := hb c (by simp)
    have db := hb d (by simp)
    rw [show nI 4 - 2 = nI 2 by decide]
    rw [fu4, o_4 (by decide), h2, h3]
    by_cases c1 : c ≤ d
    · have c1' : nI c ≤ nI d := nI_le c1 (by omega)
      apply nx_y (q := [a, b, d, c]) (by show (if c ≤ d then _ else _) = _; rw [if_pos c1])
      · rw [if_pos c1', o_31 (by decide) (by decide), fu4, o_41 (by decide) (by decide) (by decide), h2, h3, if_pos c1', o_67 (by decide) (by decide) (by decide), fu4, o_83b (by decide) (by decide)]
      · exact arr4 (by rw [pk_un (by decide), pk_un (by decide)]; exact h0) (by rw [pk_un (by decide), pk_un (by decide)]; exact h1) (by rw [pk_un (by decide), pk_us]; exact h3) (by rw [pk_us]; exact h2)
    · rw [if_neg (show ¬ nI c ≤ nI d from nI_ge (by omega) (by omega)), xj2, o_4 (by decide), h1, h2]
      by_cases c2 : b ≤ c
      · have c2' : nI b ≤ nI c := nI_le c2 (by omega)
        rw [if_pos c2', o_31 (by decide) (by decide), fu4, o_41 (by decide) (by decide) (by decide), h1, h3]
        by_cases c3 : b ≤ d
        · apply nx_y (q := [a, d, b, c]) (by show (if c ≤ d then _ else if b ≤ c then _ else _) = _; rw [if_neg c1, if_pos c2, if_pos c3])
          · rw [if_pos (nI_le c3 (by omega)), o_67 (by decide) (by decide) (by decide), fu4, o_83a (by decide) (by decide), xj3, o_83b (by decide) (by decide)]
          · exact arr4 (by rw [pk_un (by decide), pk_un (by decide), pk_un (by decide), pk_un (by decide)]; exact h0) (by rw [pk_un (by decide), pk_un (by decide), pk_un (by decide), pk_us]; exact h3) (by rw [pk_un (by decide), pk_us, pk_us]; exact h1) (by rw [pk_us, pk_un (by decide), pk_un (by decide)]; exact h2)
        · apply nx_y (q := [a, c, d, b]) (by show (if c ≤ d then _ else if b ≤ c then _ else _) = _; rw [if_neg c1, if_pos c2, if_neg c3])
          · rw [if_neg (nI_ge (by omega) (by omega)), xj3, o_41 (by decide) (by decide) (by decide), h1, h2, if_pos c2', o_67 (by decide) (by decide) (by decide), fu4, o_83a (by decide) (by decide), xj3, o_83b (by decide) (by decide)]
          · exact arr4 (by rw [pk_un (by decide), pk_un (by decide), pk_un (by decide), pk_un (by decide)]; exact h0) (by rw [pk_un (by decide), pk_un (by decide), pk_un (by decide), pk_us]; exact h2) (by rw [pk_un (by decide), pk_us, pk_un (by decide), pk_un (by decide)]; exact h3) (by rw [pk_us, pk_us]; exact h1)
      · rw [if_neg (show ¬ nI b ≤ nI c from nI_ge (by omega) (by omega)), xj1, o_4 (by decide), h0, h1]
        by_cases c4 : a ≤ b
        · have c4' : nI a ≤ nI b := nI_le c4 (by omega)
          rw [if_pos c4', o_31 (by decide) (by decide), fu4, o_41 (by decide) (by decide) (by decide), h0, h3]
          by_cases c5 : a ≤ d
          · apply nx_y (q := [d, a, c, b]) (by show (if c ≤ d then _ else if b ≤ c then _ else if a ≤ b then _ else _) = _; rw [if_neg c1, if_neg c2, if_pos c4, if_pos c5])
            · rw [if_pos (nI_le c5 (by omega)), o_67 (by decide) (by decide) (by decide), fu4, o_83a (by decide) (by decide), xj3, o_83b (by decide) (by decide)]
            · exact arr4 (by rw [pk_un (by decide), pk_un (by decide), pk_un (by decide), pk_us]; exact h3) (by rw [pk_un (by decide), pk_us, pk_us]; exact h0) (by rw [pk_un (by decide), pk_un (by decide), pk_un (by decide), pk_un (by decide)]; exact h2) (by rw [pk_us, pk_un (by decide), pk_un (by decide)]; exact h1)
          · rw [if_neg (show ¬ nI a ≤ nI d from nI_ge (by omega) (by omega)), xj3, o_41 (by decide) (by decide) (by decide), h0, h2]
            by_cases c6 : a ≤ c
            · apply nx_y (q := [c, d, a, b]) (by show (if c ≤ d then _ else if b ≤ c then _ else if a ≤ b then _ else _) = _; rw [if_neg c1, if_neg c2, if_pos c4, if_neg c5, if_pos c6])
              · rw [if_pos (nI_le c6 (by omega)), o_67 (by decide) (by decide) (by decide), fu4, o_83a (by decide) (by decide), xj3, o_83b (by decide) (by decide)]
              · exact arr4 (by rw [pk_un (by decide), pk_un (by decide), pk_un (by decide), pk_us]; exact h2) (by rw [pk_un (by decide), pk_us, pk_un (by decide), pk_un (by decide)]; exact h3) (by rw [pk_un (by decide), pk_un (by decide), pk_us]; exact h0) (by rw [pk_us, pk_un (by decide), pk_un (by decide)]; exact h1)
            · apply nx_y (q := [b, d, c, a]) (by show (if c ≤ d then _ else if b ≤ c then _ else if a ≤ b then _ else _) = _; rw [if_neg c1, if_neg c2, if_pos c4, if_neg c5, if_neg c6])
              · rw [if_neg (nI_ge (by omega) (by omega)), xj2, o_41 (by decide) (by decide) (by decide), h0, h1, if_pos c4', o_67 (by decide) (by decide) (by decide), fu4, o_83a (by decide) (by decide), xj3, o_83b (by decide) (by decide)]
              · exact arr4 (by rw [pk_un (by decide), pk_un (by decide), pk_un (by decide), pk_us]; exact h1) (by rw [pk_un (by decide), pk_us, pk_un (by decide), pk_un (by decide)]; exact h3) (by rw [pk_un (by decide), pk_un (by decide), pk_un (by decide), pk_un (by decide)]; exact h2) (by rw [pk_us, pk_us]; exact h0)
        · apply nx_n (by show (if c ≤ d then _ else if b ≤ c then _ else if a ≤ b then _ else _) = _; rw [if_neg c1, if_neg c2, if_neg c4])
          · rw [if_neg (nI_ge (by omega) (by omega)), o_4n (by decide)]
