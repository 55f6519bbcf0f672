theorem take_rev {xs : List Nat} {j : Nat} (h : j < xs.length) : (xs.take (j + 1)).reverse = xs.getD j 0 :: (xs.take j).reverse := by
  rw [List.take_succ, List.getElem?_eq_getElem h, List.reverse_append, List.getD_eq_getElem?_getD, List.getElem?_eq_getElem h]
  rfl
theorem hd8_take {xs : List Nat} {j : Nat} (h : j ≤ xs.length) : hd8 (xs.take j).reverse = if j = 0 then 8 else xs.getD (j - 1) 0 := by
  cases j with
  | zero => rfl
  | succ j => rw [take_rev (by omega)]; rfl
section ML2
variable {l how into : Nat} {now word : Nat → Int32} {xs : List Nat}
theorem l_loop (l16 : l < 16) (hh : now (64 + l) = nI how) (how2 : how ≤ 2) (hin : now (80 + l) = nI into) (hi8 : into < 8) (hx : dg xs) (hxl : xs.length ≤ 16) (hw : arr word xs) (fuel : Nat) :
    ∀ (j before : Nat) (out : List Nat) (t : Nat) (made : Nat → Int32), j ≤ xs.length → dg out → arr made out.reverse → out.length ≤ 2 * (xs.length - j) → t ≤ xs.length - j → j < fuel →
    ∃ made', F_X11_goLeft_7L (nI l) now word fuel (xj j) (nI out.length) (nI t) made = some (nI (sw (fsb now l 0) (fsb now l 2) (fsb now l 1) false true true how into (xs.take j).reverse before out t).1.length, nI (sw (fsb now l 0) (fsb now l 2) (fsb now l 1) false true true how into (xs.take j).reverse before out t).2, made') ∧ arr made' (sw (fsb now l 0) (fsb now l 2) (fsb now l 1) false true true how into (xs.take j).reverse before out t).1 := by
  induction fuel with
  | zero => intro j before out t made _ _ _ _ _ h; exact absurd h (Nat.not_lt_zero _)
  | succ fuel ih =>
    intro j before out t made hj ho hm hol ht hf
    have e0 : ∀ x2, F_X11_goLeft_7L (nI l) now word (fuel + 1) x2 (nI out.length) (nI t) made = F_X11_goLeft_7 (F_X11_goLeft_7L (nI l) now word fuel) (nI l) x2 (nI out.length) (nI t) made now word := fun _ => rfl
    rw [e0]
    generalize F_X11_goLeft_7L (nI l) now word fuel = k7 at ih
    unfold F_X11_goLeft_7
    cases j with
    | zero =>
      rw [if_pos (by show (-1 : Int32) < 0; decide)]
      obtain ⟨f', e1, e2⟩ := t_all (o := out) (by omega) (nI t) hm
      exact ⟨f', e1, e2⟩
    | succ i =>
      have hs := dg_at hx i
      have hwi : word i = nI (xs.getD i 0) := hw i (by omega)
      rw [if_neg (show ¬ xj (i + 1) < 0 from nI_pos (by omega))]
      have hit_e : hit (fsb now l 0) (fsb now l 2) (fsb now l 1) false true (xs.getD i 0) before (xs.take i).reverse out t = (fsb now l 0 (xs.getD i 0) && (fsb now l 1 (hd8 (xs.take i).reverse) && fsb now l 2 (hd8 out))) := by
        unfold hit
        simp only [Bool.false_and, Bool.not_false, Bool.true_and, if_true]
        rw [Bool.and_comm (fsb now l 2 (hd8 out))]
      have e52 : ∀ (b : Nat), b ≤ 8 → b = hd8 out → ∀ a, a ≤ 8 → a = hd8 (xs.take i).reverse → ∃ made', F_X11_goLeft_52 k7 (nI l) (nI i) (sc b) (nI l) (sc a) (nI out.length) (nI t) made now word = k7 (xj i) (nI (if hit (fsb now l 0) (fsb now l 2) (fsb now l 1) false true (xs.getD i 0) before (xs.take i).reverse out t then chg true how into (xs.getD i 0) out else xs.getD i 0 :: out).length) (nI (if hit (fsb now l 0) (fsb now l 2) (fsb now l 1) false true (xs.getD i 0) before (xs.take i).reverse out t then t + 1 else t)) made' ∧ arr made' (if hit (fsb now l 0) (fsb now l 2) (fsb now l 1) false true (xs.getD i 0) before (xs.take i).reverse out t then chg true how into (xs.getD i 0) out else xs.getD i 0 :: out).reverse := by
        intro b hb hbe a ha hae
        rw [hit_e, ← hbe, ← hae]
        unfold F_X11_goLeft_52
        rw [ck_ok rfl (show i < 16 by omega) (by decide), nI_clamp (n := i) (by omega), hwi, ← sc_s hs, m_fits l16 ha (by omega) hb, b1_s]
        generalize (fsb now l 0 (xs.getD i 0) && (fsb now l 1 a && fsb now l 2 b)) = is
        have h1 := l_79 k7 (nI t) (t := t) (s := xs.getD i 0) is l16 hh how2 hin (by omega) hm (show i < 16 by omega) hwi
        cases is with
        | false => rw [if_pos (by decide)]; exact h1
        | true => rw [if_neg (by decide)]; exact h1
      have e33 : ∀ (b : Nat), b ≤ 8 → b = hd8 out → ∃ made', F_X11_goLeft_33 k7 (nI l) (nI i) (sc b) (nI out.length) (nI t) made now word = k7 (xj i) (nI (if hit (fsb now l 0) (fsb now l 2) (fsb now l 1) false true (xs.getD i 0) before (xs.take i).reverse out t then chg true how into (xs.getD i 0) out else xs.getD i 0 :: out).length) (nI (if hit (fsb now l 0) (fsb now l 2) (fsb now l 1) false true (xs.getD i 0) before (xs.take i).reverse out t then t + 1 else t)) made' ∧ arr made' (if hit (fsb now l 0) (fsb now l 2) (fsb now l 1) false true (xs.getD i 0) before (xs.take i).reverse out t then chg true how into (xs.getD i 0) out else xs.getD i 0 :: out).reverse := by
        intro b hb hbe
        unfold F_X11_goLeft_33
        cases i with
        | zero =>
          rw [if_pos (by decide), ← sc_8]
          exact e52 b hb hbe 8 (Nat.le_refl 8) rfl
        | succ i =>
          have e1 : nI (i + 1) - 1 = nI i := nI_pred _
          rw [if_neg (nI_nle (by omega) (by omega)), e1, ck_ok rfl (show i < 16 by omega) (by decide), nI_clamp (n := i) (by omega), hw i (by omega), ← sc_s (dg_at hx i)]
          exact e52 b hb hbe _ (Nat.le_of_lt (dg_at hx i)) (by rw [take_rev (by omega)]; rfl)
      have eL : ∃ made', (if nI out.length ≤ 0 then F_X11_goLeft_33 k7 (nI l) (nI i) (-1) (nI out.length) (nI t) made now word else ck_ (nI out.length - 1) 32 (F_X11_goLeft_33 k7 (nI l) (nI i) (made (Int32.toNatClampNeg (nI out.length - 1))) (nI out.length) (nI t) made now word)) = k7 (xj i) (nI (if hit (fsb now l 0) (fsb now l 2) (fsb now l 1) false true (xs.getD i 0) before (xs.take i).reverse out t then chg true how into (xs.getD i 0) out else xs.getD i 0 :: out).length) (nI (if hit (fsb now l 0) (fsb now l 2) (fsb now l 1) false true (xs.getD i 0) before (xs.take i).reverse out t then t + 1 else t)) made' ∧ arr made' (if hit (fsb now l 0) (fsb now l 2) (fsb now l 1) false true (xs.getD i 0) before (xs.take i).reverse out t then chg true how into (xs.getD i 0) out else xs.getD i 0 :: out).reverse := by
        cases out with
        | nil =>
          rw [if_pos (by show nI 0 ≤ 0; decide), ← sc_8]
          exact e33 8 (Nat.le_refl 8) rfl
        | cons s o =>
          rw [List.length_cons] at hol
          have e1 : nI (s :: o).length - 1 = nI o.length := nI_pred _
          rw [if_neg (show ¬ nI (s :: o).length ≤ 0 from nI_nle (by rw [List.length_cons]; omega) (by rw [List.length_cons]; omega)), e1, ck_ok rfl (show o.length < 32 by omega) (by decide), nI_clamp (n := o.length) (by omega), arr_last hm, ← sc_s (dg_cons.mp ho).1]
          exact e33 s (Nat.le_of_lt (dg_cons.mp ho).1) rfl
      obtain ⟨made', e1, e2⟩ := eL
      have hsw : sw (fsb now l 0) (fsb now l 2) (fsb now l 1) false true true how into (xs.take (i + 1)).reverse before out t = sw (fsb now l 0) (fsb now l 2) (fsb now l 1) false true true how into (xs.take i).reverse (xs.getD i 0) (if hit (fsb now l 0) (fsb now l 2) (fsb now l 1) false true (xs.getD i 0) before (xs.take i).reverse out t then chg true how into (xs.getD i 0) out else xs.getD i 0 :: out) (if hit (fsb now l 0) (fsb now l 2) (fsb now l 1) false true (xs.getD i 0) before (xs.take i).reverse out t then t + 1 else t) := by
        rw [take_rev (by omega)]
        show (if hit _ _ _ _ _ _ _ _ _ _ then _ else _) = _
        split <;> rfl
      show ∃ made', (if nI out.length ≤ 0 then F_X11_goLeft_33 k7 (nI l) (nI i) (-1) (nI out.length) (nI t) made now word else ck_ (nI out.length - 1) 32 (F_X11_goLeft_33 k7 (nI l) (nI i) (made (Int32.toNatClampNeg (nI out.length - 1))) (nI out.length) (nI t) made now word)) = _ ∧ _
      rw [e1, hsw]
      have hlen := chg_len true how into (xs.getD i 0) out
      refine ih i (xs.getD i 0) _ _ made' (by omega) ?_ e2 ?_ ?_ (by omega)
      · split
        · exact chg_dg hi8 hs ho
        · exact dg_cons.mpr ⟨hs, ho⟩
      · split
        · omega
        · rw [List.length_cons]; omega
      · split <;> omega
theorem g_copy {n : Nat} (hn : n ≤ 16) (sz ch : Int32) (made : Nat → Int32) (fuel : Nat) : ∀ i, i ≤ n → n - i < fuel → ∀ w : Nat → Int32, (∀ k, k < i → w k = made k) → ∃ w', F_X11_go_60L sz (nI n) ch made fuel (nI i) w = some (1, sz, nI n, ch, made, w') ∧ ∀ k, k < n → w' k = made k := by
  induction fuel with
  | zero => intro i _ h; exact absurd h (Nat.not_lt_zero _)
  | succ fuel ih =>
    intro i hi hf w hwk
    have e0 : F_X11_go_60L sz (nI n) ch made (fuel + 1) (nI i) w = F_X11_go_60 (F_X11_go_60L sz (nI n) ch made fuel) (nI i) sz (nI n) ch made w := rfl
    rw [e0]
    unfold F_X11_go_60
    by_cases c : i = n
    · subst c
      rw [if_pos (nI_le (Nat.le_refl _) (by omega))]
      exact ⟨w, rfl, hwk⟩
    · rw [if_neg (nI_ge (by omega) (by omega)), ck_ok rfl (show i < 32 by omega) (by decide), ck_ok rfl (show i < 16 by omega) (by decide), lt_e, lt_e, nI_1, nI_clamp (n := i) (by omega)]
      refine ih (i + 1) (by omega) (by omega) _ (fun k hk => ?_)
      by_cases c2 : k = i
      · subst c2; rw [pk_us]
      · rw [pk_un c2]; exact hwk k (by omega)
/-- one law of the reference on a word -/
theorem m_go {kd : Nat} (l16 : l < 16) (hk : now (48 + l) = nI kd) (kd3 : kd ≤ 3) (hh : now (64 + l) = nI how) (how2 : how ≤ 2) (hin : now (80 + l) = nI into) (hi8 : into < 8) (hx : dg xs) (hxl : xs.length ≤ 16) (hw : arr word xs) (mk0 ch0 : Int32) (made : Nat → Int32) :
    ∃ made' word', F_X11_go (nI l) (nI xs.length) mk0 ch0 made now word = some (if (lwS kd how into (fsb now l 0) (fsb now l 1) (fsb now l 2) xs.reverse).1.length ≤ 16 then 1 else 0, if (lwS kd how into (fsb now l 0) (fsb now l 1) (fsb now l 2) xs.reverse).1.length ≤ 16 then nI (lwS kd how into (fsb now l 0) (fsb now l 1) (fsb now l 2) xs.reverse).1.length else nI xs.length, nI (lwS kd how into (fsb now l 0) (fsb now l 1) (fsb now l 2) xs.reverse).1.length, nI (lwS kd how into (fsb now l 0) (fsb now l 1) (fsb now l 2) xs.reverse).2, made', word') ∧ ((lwS kd how into (fsb now l 0) (fsb now l 1) (fsb now l 2) xs.reverse).1.length ≤ 16 → arr word' (lwS kd how into (fsb now l 0) (fsb now l 1) (fsb now l 2) xs.reverse).1.reverse) := by
  have hlen := lwS_len kd how into (fsb now l 0) (fsb now l 1) (fsb now l 2) xs.reverse
  rw [List.length_reverse] at hlen
  have e48 : (48 : Int32) + nI l = nI (48 + l) := nI_add 48 l
  have e39 : ∀ (n t : Nat) (mm : Nat → Int32), n ≤ 32 → ∃ word', F_X11_go_39 (nI xs.length) (nI n) (nI t) mm word = some (if n ≤ 16 then 1 else 0, if n ≤ 16 then nI n else nI xs.length, nI n, nI t, mm, word') ∧ (n ≤ 16 → ∀ k, k < n → word' k = mm k) := by
    intro n t mm hn
    unfold F_X11_go_39
    by_cases c : n ≤ 16
    · rw [if_pos (show nI n ≤ 16 from nI_le c (by decide)), lt_e, if_pos c, if_pos c]
      obtain ⟨w', e1, e2⟩ := g_copy c (nI n) (nI t) mm fu_ 0 (Nat.zero_le _) (by unfold fu_; omega) word (fun k hk => absurd hk (Nat.not_lt_zero k))
      exact ⟨w', e1, fun _ => e2⟩
    · rw [if_neg (show ¬ nI n ≤ 16 from nI_ge (a := 16) (by omega) (by omega)), if_neg c, if_neg c]
      exact ⟨word, rfl, fun h => absurd h c⟩
  unfold F_X11_go F_X11_go_0
  rw [lt_e, lt_e, e48, ck_ok rfl (show 48 + l < 1600 by omega) (by decide), lt_e, nI_clamp (n := 48 + l) (by omega), hk]
  by_cases c1 : kd = 1
  · rw [if_pos ((e1_ (by omega)).mpr c1)]
    obtain ⟨made', e1, e2⟩ := l_loop (l := l) (how := how) (into := into) (now := now) (word := word) (xs := xs) l16 hh how2 hin hi8 hx hxl hw fu_ xs.length 8 [] 0 made (Nat.le_refl _) dg_nil (fun i hi => absurd hi (Nat.not_lt_zero i)) (Nat.zero_le _) (Nat.zero_le _) (by unfold fu_; omega)
    rw [List.take_length] at e1 e2
    have eg : F_X11_goLeft (nI l) (nI xs.length) 0 0 made now word = some (nI (sw (fsb now l 0) (fsb now l 2) (fsb now l 1) false true true how into xs.reverse 8 [] 0).1.length, nI (sw (fsb now l 0) (fsb now l 2) (fsb now l 1) false true true how into xs.reverse 8 [] 0).2, made') := by
      unfold F_X11_goLeft F_X11_goLeft_0
      rw [lt_e]
      have ex : nI xs.length - 1 = xj xs.length := by
        cases xs.length with
        | zero => decide
        | succ n => exact nI_pred n
      rw [ex]
      exact e1
    have hl1 : lwS kd how into (fsb now l 0) (fsb now l 1) (fsb now l 2) xs.reverse = ((sw (fsb now l 0) (fsb now l 2) (fsb now l 1) false true true how into xs.reverse 8 [] 0).1.reverse, (sw (fsb now l 0) (fsb now l 2) (fsb now l 1) false true true how into xs.reverse 8 [] 0).2) := by
      unfold lwS
      rw [if_pos c1]
    rw [hl1] at hlen ⊢
    generalize sw (fsb now l 0) (fsb now l 2) (fsb now l 1) false true true how into xs.reverse 8 [] 0 = R at e2 eg hlen ⊢
    rw [eg]
    simp only [List.length_reverse, List.reverse_reverse] at hlen ⊢
    obtain ⟨w', e3, e4⟩ := e39 R.1.length R.2 made' (by omega)
    exact ⟨made', w', e3, fun h k hk => by rw [e4 h k hk]; exact e2 k hk⟩
  · rw [if_neg (fun q => c1 ((e1_ (by omega)).mp q))]
    obtain ⟨made', e1, e2⟩ := r_loop (l := l) (kd := kd) (how := how) (into := into) (now := now) (word := word) (xs := xs) l16 hh how2 hin hi8 kd3 hx hxl hw fu_ 0 8 [] 0 made (Nat.zero_le _) rfl dg_nil (fun i hi => absurd hi (Nat.not_lt_zero i)) (Nat.zero_le _) (Nat.zero_le _) (by unfold fu_; omega)
    have ez : b2 (decide (kd = 3) && decide (0 < 0)) = 0 := by simp [b2]
    rw [ez, List.drop_zero] at e1
    rw [List.drop_zero] at e2
    have hl1 : lwS kd how into (fsb now l 0) (fsb now l 1) (fsb now l 2) xs.reverse = sw (fsb now l 0) (fsb now l 1) (fsb now l 2) (decide (kd = 3)) (decide (kd = 2)) false how into xs 8 [] 0 := by
      unfold lwS
      rw [if_neg c1, List.reverse_reverse]
    rw [hl1] at hlen ⊢
    have eg : F_X11_goRight (nI l) (nI kd) (nI xs.length) 0 0 made now word = some (nI (sw (fsb now l 0) (fsb now l 1) (fsb now l 2) (decide (kd = 3)) (decide (kd = 2)) false how into xs 8 [] 0).1.length, nI (sw (fsb now l 0) (fsb now l 1) (fsb now l 2) (decide (kd = 3)) (decide (kd = 2)) false how into xs 8 [] 0).2, made') := e1
    generalize sw (fsb now l 0) (fsb now l 1) (fsb now l 2) (decide (kd = 3)) (decide (kd = 2)) false how into xs 8 [] 0 = R at e2 eg hlen ⊢
    rw [eg]
    obtain ⟨w', e3, e4⟩ := e39 R.1.length R.2 made' (by omega)
    exact ⟨made', w', e3, fun h k hk => by rw [e4 h k (by rw [List.length_reverse] at hk; exact hk)]; exact e2 k hk⟩
end ML2
