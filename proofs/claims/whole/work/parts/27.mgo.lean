/-! the reference: a law on a word, rightward -/
def arr (f : Nat → Int32) (xs : List Nat) : Prop := ∀ i, i < xs.length → f i = nI (xs.getD i 0)
theorem arr_push {f : Nat → Int32} {o : List Nat} {s : Nat} (h : arr f o.reverse) : arr (upd f o.length (nI s)) (s :: o).reverse := by
  intro i hi
  rw [List.reverse_cons] at hi ⊢
  rw [List.length_append, List.length_reverse, List.length_singleton] at hi
  by_cases c : i = o.length
  · subst c
    rw [pk_us, List.getD_eq_getElem?_getD, List.getElem?_append_right (by rw [List.length_reverse]; exact Nat.le_refl _), List.length_reverse, Nat.sub_self]
    rfl
  · rw [pk_un c, h i (by rw [List.length_reverse]; omega), List.getD_eq_getElem?_getD, List.getD_eq_getElem?_getD, List.getElem?_append_left (by rw [List.length_reverse]; omega)]
theorem arr_last {f : Nat → Int32} {o : List Nat} {s : Nat} (h : arr f (s :: o).reverse) : f o.length = nI s := by
  have := h o.length (by rw [List.length_reverse, List.length_cons]; omega)
  rw [this, List.reverse_cons, List.getD_eq_getElem?_getD, List.getElem?_append_right (by rw [List.length_reverse]; exact Nat.le_refl _), List.length_reverse, Nat.sub_self]
  rfl
theorem m_make {s n : Nat} (hn : n < 32) (made : Nat → Int32) : F_X11_make (nI s) (nI n) made = some (nI (n + 1), upd made n (nI s)) := by
  unfold F_X11_make F_X11_make_0
  rw [ck_ok rfl hn (by decide), lt_e, lt_e, nI_1, nI_clamp (by omega)]
section MR
variable {l kd how into : Nat} {now word : Nat → Int32} (k5 : Int32 → Int32 → Int32 → Int32 → (Nat → Int32) → Option (Int32 × Int32 × (Nat → Int32)))
theorem r_184 (x2 x3 size ch : Int32) {i : Nat} {o : List Nat} {made : Nat → Int32} (is : Bool) (l16 : l < 16) (hh : now (64 + l) = nI how) (how2 : how ≤ 2) (hin : now (80 + l) = nI into) (ho : o.length < 32) (hm : arr made o.reverse) :
    ∃ made', F_X11_goRight_184 k5 (nI l) x2 x3 (nI i) (b2 is) size (nI o.length) ch made now word = k5 x3 (nI (i + 1)) (nI (if is && decide (how ≠ 1) then into :: o else o).length) ch made' ∧ arr made' (if is && decide (how ≠ 1) then into :: o else o).reverse := by
  unfold F_X11_goRight_184 F_X11_goRight_215
  cases is with
  | false =>
    rw [if_pos (by decide), lt_e, nI_1]
    exact ⟨made, rfl, hm⟩
  | true =>
    have e64 : (64 : Int32) + nI l = nI (64 + l) := nI_add 64 l
    have e80 : (80 : Int32) + nI l = nI (80 + l) := nI_add 80 l
    rw [if_neg (by decide), e64, ck_ok rfl (show 64 + l < 1600 by omega) (by decide), nI_clamp (by omega), hh]
    by_cases c : how = 1
    · rw [if_pos ((e1_ (by omega)).mpr c), lt_e, nI_1]
      have e : (true && decide (how ≠ 1)) = false := by simp [c]
      rw [e]
      exact ⟨made, rfl, hm⟩
    · rw [if_neg (fun q => c ((e1_ (by omega)).mp q)), e80, ck_ok rfl (show 80 + l < 1600 by omega) (by decide), nI_clamp (by omega), hin, m_make ho, b2_s, lt_e, nI_1]
      have e : (true && decide (how ≠ 1)) = true := by simp [c]
      rw [e]
      exact ⟨_, rfl, arr_push hm⟩
theorem r_151 (x2 x3 size ch0 : Int32) {i t s : Nat} {o : List Nat} {made : Nat → Int32} (is : Bool) (l16 : l < 16) (hh : now (64 + l) = nI how) (how2 : how ≤ 2) (hin : now (80 + l) = nI into) (ho : o.length < 31) (hm : arr made o.reverse) (hi : i < 16) (hw : word i = nI s) :
    ∃ made', F_X11_goRight_151 k5 (nI l) x2 x3 (nI i) (b2 is) (nI t) (b2 is) size (nI o.length) ch0 made now word = k5 x3 (nI (i + 1)) (nI (if is then chg false how into s o else s :: o).length) (nI (if is then t + 1 else t)) made' ∧ arr made' (if is then chg false how into s o else s :: o).reverse := by
  have e173 : ∀ ch : Int32, ∃ made', F_X11_goRight_173 k5 (nI l) x2 x3 (nI i) (b2 is) size (nI o.length) ch made now word = k5 x3 (nI (i + 1)) (nI (if is && decide (how ≠ 1) then into :: s :: o else s :: o).length) ch made' ∧ arr made' (if is && decide (how ≠ 1) then into :: s :: o else s :: o).reverse := by
    intro ch
    unfold F_X11_goRight_173
    rw [ck_ok rfl hi (by decide), nI_clamp (by omega), hw, m_make (by omega), b2_s]
    exact r_184 k5 x2 x3 size ch (o := s :: o) is l16 hh how2 hin (by rw [List.length_cons]; omega) (arr_push hm)
  unfold F_X11_goRight_151
  rw [lt_e]
  cases is with
  | false =>
    rw [if_pos (by decide)]
    have e0 : nI t + b2 false = nI t := by
      show nI t + nI 0 = nI t
      rw [nI_add]; rfl
    rw [e0]
    exact e173 (nI t)
  | true =>
    have e64 : (64 : Int32) + nI l = nI (64 + l) := nI_add 64 l
    have e1 : nI t + b2 true = nI (t + 1) := nI_1 t
    rw [if_neg (by decide), e64, ck_ok rfl (show 64 + l < 1600 by omega) (by decide), nI_clamp (n := 64 + l) (by omega), hh, e1]
    by_cases c : how = 2
    · rw [if_pos ((e2_ (by omega)).mpr c)]
      have := e173 (nI (t + 1))
      subst c
      exact this
    · rw [if_neg (fun q => c ((e2_ (by omega)).mp q))]
      have := r_184 k5 x2 x3 size (nI (t + 1)) (i := i) (word := word) (o := o) (made := made) true l16 hh how2 hin (by omega) hm
      rcases (show how = 0 ∨ how = 1 by omega) with rfl | rfl
      · exact this
      · exact this
end MR
