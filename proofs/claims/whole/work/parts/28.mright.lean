section MR2
variable {l kd how into : Nat} {now word : Nat → Int32} (k5 : Int32 → Int32 → Int32 → Int32 → (Nat → Int32) → Option (Int32 × Int32 × (Nat → Int32)))
theorem r_114 (size : Int32) {i t s : Nat} {o : List Nat} {made : Nat → Int32} (over is : Bool) (hov : over = true → is = false) (kd3 : kd ≤ 3) (l16 : l < 16) (hh : now (64 + l) = nI how) (how2 : how ≤ 2) (hin : now (80 + l) = nI into) (ho : o.length < 31) (hm : arr made o.reverse) (hi : i < 16) (hw : word i = nI s) :
    ∃ made', F_X11_goRight_114 k5 (nI l) (nI kd) (b2 over) (nI i) (b2 is) size (nI o.length) (nI t) made now word = k5 (b2 (over || (is && decide (kd = 3)))) (nI (i + 1)) (nI (if is then chg false how into s o else s :: o).length) (nI (if is then t + 1 else t)) made' ∧ arr made' (if is then chg false how into s o else s :: o).reverse := by
  have e135 : ∀ n : Bool, ∃ made', F_X11_goRight_135 k5 (nI l) (nI kd) (nI i) (b2 is) (b2 n) size (nI o.length) (nI t) made now word = k5 (b2 n) (nI (i + 1)) (nI (if is then chg false how into s o else s :: o).length) (nI (if is then t + 1 else t)) made' ∧ arr made' (if is then chg false how into s o else s :: o).reverse := by
    intro n
    unfold F_X11_goRight_135
    have := r_151 k5 (nI kd) (b2 n) size (nI t) (t := t) (s := s) is l16 hh how2 hin ho hm hi hw
    cases is with
    | false => rw [if_pos (by decide)]; exact this
    | true => rw [if_neg (by decide)]; exact this
  unfold F_X11_goRight_114 F_X11_goRight_130 F_X11_goRight_134
  cases over with
  | true =>
    have := hov rfl
    subst this
    rw [if_neg (by decide)]
    exact e135 true
  | false =>
    rw [if_pos (by decide)]
    cases is with
    | false =>
      rw [if_pos (by decide)]
      exact e135 false
    | true =>
      rw [if_neg (by decide)]
      by_cases c : kd = 3
      · rw [if_pos ((e3_ (by omega)).mpr c)]
        have e : (false || (true && decide (kd = 3))) = true := by simp [c]
        rw [e]
        exact e135 true
      · rw [if_neg (fun q => c ((e3_ (by omega)).mp q))]
        have e : (false || (true && decide (kd = 3))) = false := by simp [c]
        rw [e]
        exact e135 false
end MR2
theorem drop_hd {xs : List Nat} {i : Nat} (h : i < xs.length) : xs.drop i = xs.getD i 0 :: xs.drop (i + 1) := by
  rw [List.drop_eq_getElem_cons h, List.getD_eq_getElem?_getD, List.getElem?_eq_getElem h]
  rfl
theorem hd8_drop {xs : List Nat} {i : Nat} : hd8 (xs.drop i) = if i < xs.length then xs.getD i 0 else 8 := by
  by_cases c : i < xs.length
  · rw [if_pos c, drop_hd c]; rfl
  · rw [if_neg c, List.drop_eq_nil_of_le (by omega)]; rfl
theorem dg_at {xs : List Nat} (h : dg xs) (i : Nat) : xs.getD i 0 < 8 := by
  rw [List.getD_eq_getElem?_getD]
  cases hx : xs[i]? with
  | none => decide
  | some x => exact h x (List.mem_of_getElem? hx)
theorem dg_drop {xs : List Nat} (h : dg xs) (i : Nat) : dg (xs.drop i) := fun x hx => h x (List.mem_of_mem_drop hx)
section MR3
variable {l kd how into : Nat} {now word : Nat → Int32} {xs : List Nat}
theorem r_loop (l16 : l < 16) (hh : now (64 + l) = nI how) (how2 : how ≤ 2) (hin : now (80 + l) = nI into) (hi8 : into < 8) (kd3 : kd ≤ 3) (hx : dg xs) (hxl : xs.length ≤ 16) (hw : arr word xs) (fuel : Nat) :
    ∀ (i before : Nat) (out : List Nat) (t : Nat) (made : Nat → Int32), i ≤ xs.length → before = (if i = 0 then 8 else xs.getD (i - 1) 0) → dg out → arr made out.reverse → out.length ≤ 2 * i → t ≤ i → xs.length - i < fuel →
    ∃ made', F_X11_goRight_5L (nI l) (nI kd) (nI xs.length) now word fuel (b2 (decide (kd = 3) && decide (0 < t))) (nI i) (nI out.length) (nI t) made = some (nI (sw (fsb now l 0) (fsb now l 1) (fsb now l 2) (decide (kd = 3)) (decide (kd = 2)) false how into (xs.drop i) before out t).1.length, nI (sw (fsb now l 0) (fsb now l 1) (fsb now l 2) (decide (kd = 3)) (decide (kd = 2)) false how into (xs.drop i) before out t).2, made') ∧ arr made' (sw (fsb now l 0) (fsb now l 1) (fsb now l 2) (decide (kd = 3)) (decide (kd = 2)) false how into (xs.drop i) before out t).1.reverse := by
  induction fuel with
  | zero => intro i before out t made _ _ _ _ _ _ h; exact absurd h (Nat.not_lt_zero _)
  | succ fuel ih =>
    intro i before out t made hi hb ho hm hol ht hf
    have e0 : ∀ x3, F_X11_goRight_5L (nI l) (nI kd) (nI xs.length) now word (fuel + 1) x3 (nI i) (nI out.length) (nI t) made = F_X11_goRight_5 (F_X11_goRight_5L (nI l) (nI kd) (nI xs.length) now word fuel) (nI l) (nI kd) x3 (nI i) (nI xs.length) (nI out.length) (nI t) made now word := fun _ => rfl
    rw [e0]
    generalize F_X11_goRight_5L (nI l) (nI kd) (nI xs.length) now word fuel = k5 at ih
    unfold F_X11_goRight_5
    by_cases ci : i < xs.length
    · rw [if_neg (nI_ge ci (by omega))]
      have hb8 : before ≤ 8 := by rw [hb]; split; exact Nat.le_refl 8; exact Nat.le_of_lt (dg_at hx _)
      have hwi : word i = nI (xs.getD i 0) := hw i ci
      have hs := dg_at hx i
      -- what F_62 does, for the sound on the left
      have e62 : ∀ q, q ≤ 8 → ∃ made', F_X11_goRight_62 k5 (nI l) (nI kd) (b2 (decide (kd = 3) && decide (0 < t))) (nI i) (sc q) (nI xs.length) (nI out.length) (nI t) made now word = k5 (b2 (decide (kd = 3) && decide (0 < (if !(decide (kd = 3) && decide (0 < t)) && (fsb now l 0 (xs.getD i 0) && (fsb now l 1 q && fsb now l 2 (hd8 (xs.drop (i + 1))))) then t + 1 else t)))) (nI (i + 1)) (nI (if !(decide (kd = 3) && decide (0 < t)) && (fsb now l 0 (xs.getD i 0) && (fsb now l 1 q && fsb now l 2 (hd8 (xs.drop (i + 1))))) then chg false how into (xs.getD i 0) out else xs.getD i 0 :: out).length) (nI (if !(decide (kd = 3) && decide (0 < t)) && (fsb now l 0 (xs.getD i 0) && (fsb now l 1 q && fsb now l 2 (hd8 (xs.drop (i + 1))))) then t + 1 else t)) made' ∧ arr made' (if !(decide (kd = 3) && decide (0 < t)) && (fsb now l 0 (xs.getD i 0) && (fsb now l 1 q && fsb now l 2 (hd8 (xs.drop (i + 1))))) then chg false how into (xs.getD i 0) out else xs.getD i 0 :: out).reverse := by
        intro q hq
        have e113 : ∀ is : Bool, ((decide (kd = 3) && decide (0 < t)) = true → is = false) → ∃ made', F_X11_goRight_114 k5 (nI l) (nI kd) (b2 (decide (kd = 3) && decide (0 < t))) (nI i) (b2 is) (nI xs.length) (nI out.length) (nI t) made now word = k5 (b2 (decide (kd = 3) && decide (0 < (if is then t + 1 else t)))) (nI (i + 1)) (nI (if is then chg false how into (xs.getD i 0) out else xs.getD i 0 :: out).length) (nI (if is then t + 1 else t)) made' ∧ arr made' (if is then chg false how into (xs.getD i 0) out else xs.getD i 0 :: out).reverse := by
          intro is hov
          have h1 := r_114 k5 (nI xs.length) (t := t) (s := xs.getD i 0) (decide (kd = 3) && decide (0 < t)) is hov kd3 l16 hh how2 hin (by omega) hm (by omega) hwi
          have e : ((decide (kd = 3) && decide (0 < t)) || (is && decide (kd = 3))) = (decide (kd = 3) && decide (0 < (if is then t + 1 else t))) := by
            cases is <;> simp <;> intros <;> assumption
          rw [e] at h1
          exact h1
        unfold F_X11_goRight_62 F_X11_goRight_113
        cases hovr : (decide (kd = 3) && decide (0 < t)) with
        | true =>
          rw [if_neg (by decide)]
          have h1 := e113 false (fun _ => rfl)
          rw [hovr] at h1
          have hsame : (!true && (fsb now l 0 (xs.getD i 0) && (fsb now l 1 q && fsb now l 2 (hd8 (xs.drop (i + 1)))))) = false := by simp
          rw [hsame]
          exact h1
        | false =>
          rw [if_pos (by decide), ck_ok rfl (show i < 16 by omega) (by decide), nI_clamp (n := i) (by omega), hwi, nI_1]
          have e103 : ∀ (b : Nat), b ≤ 8 → b = hd8 (xs.drop (i + 1)) → F_X11_goRight_103 k5 (nI l) (nI kd) (b2 false) (nI i) (nI l) (sc q) (nI (xs.getD i 0)) (sc b) (nI xs.length) (nI out.length) (nI t) made now word = F_X11_goRight_114 k5 (nI l) (nI kd) (b2 false) (nI i) (b2 (fsb now l 0 (xs.getD i 0) && (fsb now l 1 q && fsb now l 2 (hd8 (xs.drop (i + 1)))))) (nI xs.length) (nI out.length) (nI t) made now word := by
            intro b hb9 hbe
            unfold F_X11_goRight_103 F_X11_goRight_113
            rw [← sc_s hs, m_fits l16 hq (by omega) hb9, b1_s, hbe]
            cases (fsb now l 0 (xs.getD i 0) && (fsb now l 1 q && fsb now l 2 (hd8 (xs.drop (i + 1))))) with
            | false => rw [if_pos (by decide)]; rfl
            | true => rw [if_neg (by decide)]; rfl
          have h1 := e113 (fsb now l 0 (xs.getD i 0) && (fsb now l 1 q && fsb now l 2 (hd8 (xs.drop (i + 1))))) (by rw [hovr]; intro h; cases h)
          rw [hovr] at h1
          have hsame : (!false && (fsb now l 0 (xs.getD i 0) && (fsb now l 1 q && fsb now l 2 (hd8 (xs.drop (i + 1)))))) = (fsb now l 0 (xs.getD i 0) && (fsb now l 1 q && fsb now l 2 (hd8 (xs.drop (i + 1))))) := by simp
          rw [hsame]
          by_cases c1 : i + 1 < xs.length
          · rw [if_neg (nI_ge c1 (by omega)), ck_ok rfl (show i + 1 < 16 by omega) (by decide), nI_clamp (n := i + 1) (by omega), hw (i + 1) c1, ← sc_s (dg_at hx (i + 1)), e103 _ (Nat.le_of_lt (dg_at hx _)) (by rw [hd8_drop, if_pos c1])]
            exact h1
          · rw [if_pos (nI_le (by omega) (by omega)), ← sc_8, e103 8 (Nat.le_refl 8) (by rw [hd8_drop, if_neg c1])]
            exact h1
      have hsw : sw (fsb now l 0) (fsb now l 1) (fsb now l 2) (decide (kd = 3)) (decide (kd = 2)) false how into (xs.drop i) before out t = sw (fsb now l 0) (fsb now l 1) (fsb now l 2) (decide (kd = 3)) (decide (kd = 2)) false how into (xs.drop (i + 1)) (xs.getD i 0) (if hit (fsb now l 0) (fsb now l 1) (fsb now l 2) (decide (kd = 3)) (decide (kd = 2)) (xs.getD i 0) before (xs.drop (i + 1)) out t then chg false how into (xs.getD i 0) out else xs.getD i 0 :: out) (if hit (fsb now l 0) (fsb now l 1) (fsb now l 2) (decide (kd = 3)) (decide (kd = 2)) (xs.getD i 0) before (xs.drop (i + 1)) out t then t + 1 else t) := by
        rw [drop_hd ci]
        show (if hit _ _ _ _ _ _ _ _ _ _ then _ else _) = _
        split <;> rfl
      -- the left sound by the kind
      have eL : ∃ made', (if nI kd = 2 then (if nI out.length ≤ 0 then F_X11_goRight_62 k5 (nI l) (nI kd) (b2 (decide (kd = 3) && decide (0 < t))) (nI i) (-1) (nI xs.length) (nI out.length) (nI t) made now word else ck_ (nI out.length - 1) 32 (F_X11_goRight_62 k5 (nI l) (nI kd) (b2 (decide (kd = 3) && decide (0 < t))) (nI i) (made (Int32.toNatClampNeg (nI out.length - 1))) (nI xs.length) (nI out.length) (nI t) made now word)) else (if nI i ≤ 0 then F_X11_goRight_62 k5 (nI l) (nI kd) (b2 (decide (kd = 3) && decide (0 < t))) (nI i) (-1) (nI xs.length) (nI out.length) (nI t) made now word else ck_ (nI i - 1) 16 (F_X11_goRight_62 k5 (nI l) (nI kd) (b2 (decide (kd = 3) && decide (0 < t))) (nI i) (word (Int32.toNatClampNeg (nI i - 1))) (nI xs.length) (nI out.length) (nI t) made now word)))
          = k5 (b2 (decide (kd = 3) && decide (0 < (if hit (fsb now l 0) (fsb now l 1) (fsb now l 2) (decide (kd = 3)) (decide (kd = 2)) (xs.getD i 0) before (xs.drop (i + 1)) out t then t + 1 else t)))) (nI (i + 1)) (nI (if hit (fsb now l 0) (fsb now l 1) (fsb now l 2) (decide (kd = 3)) (decide (kd = 2)) (xs.getD i 0) before (xs.drop (i + 1)) out t then chg false how into (xs.getD i 0) out else xs.getD i 0 :: out).length) (nI (if hit (fsb now l 0) (fsb now l 1) (fsb now l 2) (decide (kd = 3)) (decide (kd = 2)) (xs.getD i 0) before (xs.drop (i + 1)) out t then t + 1 else t)) made' ∧ arr made' (if hit (fsb now l 0) (fsb now l 1) (fsb now l 2) (decide (kd = 3)) (decide (kd = 2)) (xs.getD i 0) before (xs.drop (i + 1)) out t then chg false how into (xs.getD i 0) out else xs.getD i 0 :: out).reverse := by
        by_cases c2 : kd = 2
        · rw [if_pos ((e2_ (by omega)).mpr c2)]
          have hit_e : hit (fsb now l 0) (fsb now l 1) (fsb now l 2) (decide (kd = 3)) (decide (kd = 2)) (xs.getD i 0) before (xs.drop (i + 1)) out t = (!(decide (kd = 3) && decide (0 < t)) && (fsb now l 0 (xs.getD i 0) && (fsb now l 1 (hd8 out) && fsb now l 2 (hd8 (xs.drop (i + 1)))))) := by
            unfold hit; simp [c2]
          rw [hit_e]
          have h1 := e62 (hd8 out) (hd8_le ho)
          cases out with
          | nil =>
            rw [if_pos (by show nI 0 ≤ 0; decide)]
            exact h1
          | cons s o =>
            rw [List.length_cons] at hol ⊢
            have e1 : nI (o.length + 1) - 1 = nI o.length := nI_pred _
            rw [if_neg (nI_nle (by omega) (by omega)), e1, ck_ok rfl (show o.length < 32 by omega) (by decide), nI_clamp (n := o.length) (by omega), arr_last hm, ← sc_s (dg_cons.mp ho).1]
            exact h1
        · rw [if_neg (fun q => c2 ((e2_ (by omega)).mp q))]
          have hit_e : hit (fsb now l 0) (fsb now l 1) (fsb now l 2) (decide (kd = 3)) (decide (kd = 2)) (xs.getD i 0) before (xs.drop (i + 1)) out t = (!(decide (kd = 3) && decide (0 < t)) && (fsb now l 0 (xs.getD i 0) && (fsb now l 1 before && fsb now l 2 (hd8 (xs.drop (i + 1)))))) := by
            unfold hit; simp [c2]
          rw [hit_e]
          have h1 := e62 before hb8
          by_cases c0 : i = 0
          · rw [if_pos c0] at hb
            subst c0
            rw [if_pos (by decide), ← sc_8, ← hb]
            exact h1
          · rw [if_neg c0] at hb
            obtain ⟨j, rfl⟩ : ∃ j, i = j + 1 := ⟨i - 1, by omega⟩
            have e1 : nI (j + 1) - 1 = nI j := nI_pred _
            rw [if_neg (nI_nle (by omega) (by omega)), e1, ck_ok rfl (show j < 16 by omega) (by decide), nI_clamp (n := j) (by omega), hw j (by omega)]
            have hbj : before = xs.getD j 0 := hb
            rw [← sc_s (dg_at hx j), ← hbj]
            exact h1
      obtain ⟨made', e1, e2⟩ := eL
      rw [e1, hsw]
      have hlen := chg_len false how into (xs.getD i 0) out
      refine ih (i + 1) (xs.getD i 0) _ _ made' ci ?_ ?_ e2 ?_ ?_ (by omega)
      · rw [if_neg (by omega)]; rfl
      · split
        · exact chg_dg hi8 hs ho
        · exact dg_cons.mpr ⟨hs, ho⟩
      · split
        · omega
        · rw [List.length_cons]; omega
      · split <;> omega
    · rw [if_pos (nI_le (by omega) (by omega))]
      have e1 : xs.drop i = [] := List.drop_eq_nil_of_le (by omega)
      rw [e1]
      exact ⟨made, rfl, hm⟩
end MR3
