/-! the reference: leftward; the row turned round at the end -/
def tn_ (g : Nat → Int32) (n i : Nat) : Nat → Int32 := fun k => if (k < i ∨ n - 1 - i < k) ∧ k < n then g (n - 1 - k) else g k
theorem t_loop {n : Nat} (hn : n ≤ 32) (ch : Int32) (g : Nat → Int32) (fuel : Nat) : ∀ i, i ≤ n / 2 → n / 2 - i < fuel → ∀ f, (∀ k, k < n → f k = tn_ g n i k) → ∃ f', F_X11_goLeft_150L (nI n) ch fuel (nI i) f = some (nI n, ch, f') ∧ ∀ k, k < n → f' k = g (n - 1 - k) := by
  induction fuel with
  | zero => intro i _ h; exact absurd h (Nat.not_lt_zero _)
  | succ fuel ih =>
    intro i hi hf f hfk
    have e0 : F_X11_goLeft_150L (nI n) ch (fuel + 1) (nI i) f = F_X11_goLeft_150 (F_X11_goLeft_150L (nI n) ch fuel) (nI i) (nI n) ch f := rfl
    rw [e0]
    unfold F_X11_goLeft_150
    have ed : nI n / 2 = nI (n / 2) := pk_div (d := 2) (by omega) (by decide) (by decide)
    rw [ed]
    by_cases c : i = n / 2
    · rw [if_pos (nI_le (by omega) (by omega))]
      refine ⟨f, rfl, fun k hk => ?_⟩
      rw [hfk k hk]
      unfold tn_
      split
      · rfl
      · rename_i h
        have : n - 1 - k = k := by omega
        rw [this]
    · have e1 : nI n - 1 - nI i = nI (n - 1 - i) := by
        rw [show (1 : Int32) = nI 1 from rfl, pk_sub (by omega), pk_sub (by omega)]
      rw [if_neg (nI_ge (by omega) (by omega)), e1, ck_ok rfl (show i < 32 by omega) (by decide), lt_e, ck_ok rfl (show n - 1 - i < 32 by omega) (by decide), ck_ok rfl (show i < 32 by omega) (by decide), lt_e, ck_ok rfl (show n - 1 - i < 32 by omega) (by decide), lt_e, lt_e, nI_1, nI_clamp (n := i) (by omega), nI_clamp (n := n - 1 - i) (by omega)]
      refine ih (i + 1) (by omega) (by omega) _ (fun k hk => ?_)
      have hA := hfk i (by omega)
      have hB := hfk (n - 1 - i) (by omega)
      have hgA : f i = g i := by rw [hA]; unfold tn_; rw [if_neg (by omega)]
      have hgB : f (n - 1 - i) = g (n - 1 - i) := by rw [hB]; unfold tn_; rw [if_neg (by omega)]
      by_cases c1 : k = n - 1 - i
      · subst c1
        rw [pk_us, hgA]
        unfold tn_
        rw [if_pos (by omega)]
        congr 1
        omega
      · rw [pk_un c1]
        by_cases c2 : k = i
        · subst c2
          rw [pk_us, hgB]
          unfold tn_
          rw [if_pos (by omega)]
        · rw [pk_un c2, hfk k hk]
          unfold tn_
          by_cases c3 : (k < i ∨ n - 1 - i < k) ∧ k < n
          · rw [if_pos c3, if_pos (by omega)]
          · rw [if_neg c3, if_neg (by omega)]
theorem t_all {o : List Nat} (ho : o.length ≤ 32) (ch : Int32) {f : Nat → Int32} (h : arr f o.reverse) : ∃ f', F_X11_goLeft_150L (nI o.length) ch fu_ (nI 0) f = some (nI o.length, ch, f') ∧ arr f' o := by
  obtain ⟨f', e1, e2⟩ := t_loop ho ch f fu_ 0 (Nat.zero_le _) (by unfold fu_; omega) f (fun k hk => by unfold tn_; rw [if_neg (by omega)])
  refine ⟨f', e1, fun k hk => ?_⟩
  rw [e2 k hk, h (o.length - 1 - k) (by rw [List.length_reverse]; omega), List.getD_eq_getElem?_getD, List.getD_eq_getElem?_getD, List.getElem?_reverse (by omega)]
  congr 3
  congr 1
  omega
section ML
variable {l how into : Nat} {now word : Nat → Int32} (k7 : Int32 → Int32 → Int32 → (Nat → Int32) → Option (Int32 × Int32 × (Nat → Int32)))
def xj : Nat → Int32
  | 0 => -1
  | i + 1 => nI i
theorem xj_dec (i : Nat) : nI i + (-1) = xj i := by
  cases i with
  | zero => decide
  | succ i => exact pk_m1 i
theorem l_114 (ch : Int32) {i s : Nat} {o : List Nat} {made : Nat → Int32} (is : Bool) (l16 : l < 16) (hh : now (64 + l) = nI how) (how2 : how ≤ 2) (ho : o.length < 32) (hm : arr made o.reverse) (hi : i < 16) (hw : word i = nI s) :
    ∃ made', F_X11_goLeft_114 k7 (nI l) (nI i) (b2 is) (nI o.length) ch made now word = k7 (xj i) (nI (if is && decide (how ≠ 2) then o else s :: o).length) ch made' ∧ arr made' (if is && decide (how ≠ 2) then o else s :: o).reverse := by
  have e132 : ∃ made', F_X11_goLeft_132 k7 (nI l) (nI i) (nI o.length) ch made now word = k7 (xj i) (nI (s :: o).length) ch made' ∧ arr made' (s :: o).reverse := by
    unfold F_X11_goLeft_132 F_X11_goLeft_142
    rw [ck_ok rfl hi (by decide), nI_clamp (by omega), hw, m_make ho, b2_s, lt_e, xj_dec]
    exact ⟨_, rfl, arr_push hm⟩
  unfold F_X11_goLeft_114
  cases is with
  | false => rw [if_pos (by decide)]; exact e132
  | true =>
    have e64 : (64 : Int32) + nI l = nI (64 + l) := nI_add 64 l
    rw [if_neg (by decide), e64, ck_ok rfl (show 64 + l < 1600 by omega) (by decide), nI_clamp (n := 64 + l) (by omega), hh]
    by_cases c : how = 2
    · rw [if_pos ((e2_ (by omega)).mpr c)]
      have e : (true && decide (how ≠ 2)) = false := by simp [c]
      rw [e]
      exact e132
    · rw [if_neg (fun q => c ((e2_ (by omega)).mp q))]
      have e : (true && decide (how ≠ 2)) = true := by simp [c]
      rw [e]
      unfold F_X11_goLeft_142
      rw [lt_e, xj_dec]
      exact ⟨made, rfl, hm⟩
theorem l_79 (ch0 : Int32) {i t s : Nat} {o : List Nat} {made : Nat → Int32} (is : Bool) (l16 : l < 16) (hh : now (64 + l) = nI how) (how2 : how ≤ 2) (hin : now (80 + l) = nI into) (ho : o.length < 31) (hm : arr made o.reverse) (hi : i < 16) (hw : word i = nI s) :
    ∃ made', F_X11_goLeft_79 k7 (nI l) (nI i) (b2 is) (nI t) (b2 is) (nI o.length) ch0 made now word = k7 (xj i) (nI (if is then chg true how into s o else s :: o).length) (nI (if is then t + 1 else t)) made' ∧ arr made' (if is then chg true how into s o else s :: o).reverse := by
  unfold F_X11_goLeft_79
  rw [lt_e]
  cases is with
  | false =>
    have e0 : nI t + b2 false = nI t := by
      show nI t + nI 0 = nI t
      rw [nI_add]; rfl
    rw [if_pos (by decide), e0]
    exact l_114 k7 (nI t) false l16 hh how2 (by omega) hm hi hw
  | true =>
    have e64 : (64 : Int32) + nI l = nI (64 + l) := nI_add 64 l
    have e80 : (80 : Int32) + nI l = nI (80 + l) := nI_add 80 l
    have e1 : nI t + b2 true = nI (t + 1) := nI_1 t
    rw [if_neg (by decide), e64, ck_ok rfl (show 64 + l < 1600 by omega) (by decide), nI_clamp (n := 64 + l) (by omega), hh, e1]
    by_cases c : how = 1
    · rw [if_pos ((e1_ (by omega)).mpr c)]
      have := l_114 k7 (nI (t + 1)) (s := s) true l16 hh how2 (by omega) hm hi hw
      subst c
      exact this
    · rw [if_neg (fun q => c ((e1_ (by omega)).mp q)), e80, ck_ok rfl (show 80 + l < 1600 by omega) (by decide), nI_clamp (n := 80 + l) (by omega), hin, m_make (by omega), b2_s]
      have := l_114 k7 (nI (t + 1)) (s := s) (o := into :: o) true l16 hh how2 (by rw [List.length_cons]; omega) (arr_push hm) hi hw
      rcases (show how = 0 ∨ how = 2 by omega) with rfl | rfl
      · exact this
      · exact this
end ML
