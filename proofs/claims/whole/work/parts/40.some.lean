/-! SOME WORDS in their order: the j-th word, its rank -/
def sh (n : Nat) : Nat → Nat
  | 0 => 0
  | m + 1 => sh n m + n ^ m
def vl (n : Nat) : List Nat → Nat
  | [] => 0
  | s :: r => s + n * vl n r
def tp (n : Nat) (r : List Nat) : Prop := ∀ s ∈ r, s + 1 = n
theorem tp_nil {n : Nat} : tp n [] := fun _ h => by cases h
theorem tp_cons {n s : Nat} {r : List Nat} : tp n (s :: r) ↔ s + 1 = n ∧ tp n r := ⟨fun h => ⟨h s List.mem_cons_self, fun x hx => h x (List.mem_cons_of_mem _ hx)⟩, fun h x hx => by
  rcases List.mem_cons.mp hx with rfl | hx
  · exact h.1
  · exact h.2 x hx⟩
theorem hm_sh (n m : Nat) : hm n m = sh n (m + 1) := by
  induction m with
  | zero => simp [hm, sh]
  | succ m ih =>
    show hm n m + n ^ (m + 1) = sh n (m + 1) + n ^ (m + 1)
    rw [ih]
theorem nr_top {n : Nat} {r : List Nat} (h : tp n r) : nr n r = List.replicate (r.length + 1) 0 := by
  induction r with
  | nil => rfl
  | cons s r ih =>
    have h' := tp_cons.mp h
    unfold nr
    rw [if_neg (by omega), ih h'.2, List.length_cons, ← List.replicate_succ]
theorem vl_top {n : Nat} {r : List Nat} (h : tp n r) : vl n r + 1 = n ^ r.length := by
  induction r with
  | nil => rfl
  | cons s r ih =>
    have h' := tp_cons.mp h
    have h2 := ih h'.2
    rw [List.length_cons, Nat.pow_succ, ← h2, Nat.mul_comm, Nat.mul_add]
    show s + n * vl n r + 1 = _
    omega
theorem nr_not {n : Nat} {r : List Nat} (h : dn n r) (h2 : ¬ tp n r) : (nr n r).length = r.length ∧ vl n (nr n r) = vl n r + 1 := by
  induction r with
  | nil => exact absurd tp_nil h2
  | cons s r ih =>
    have h' := dn_cons.mp h
    unfold nr
    by_cases c : s + 1 < n
    · rw [if_pos c]
      refine ⟨rfl, ?_⟩
      show s + 1 + n * vl n r = s + n * vl n r + 1
      omega
    · rw [if_neg c]
      have h3 : ¬ tp n r := fun q => h2 (tp_cons.mpr ⟨by omega, q⟩)
      obtain ⟨e1, e2⟩ := ih h'.2 h3
      refine ⟨by rw [List.length_cons, List.length_cons, e1], ?_⟩
      show 0 + n * vl n (nr n r) = s + n * vl n r + 1
      rw [e2, Nat.mul_add]
      omega
theorem nr_dn {n : Nat} (hn : 1 ≤ n) {r : List Nat} (h : dn n r) : dn n (nr n r) := by
  induction r with
  | nil => exact dn_cons.mpr ⟨by omega, dn_nil⟩
  | cons s r ih =>
    have h' := dn_cons.mp h
    unfold nr
    split
    · exact dn_cons.mpr ⟨by omega, h'.2⟩
    · exact dn_cons.mpr ⟨by omega, ih h'.2⟩
theorem vl_lt {n : Nat} {r : List Nat} (h : dn n r) : vl n r < n ^ r.length := by
  induction r with
  | nil => exact Nat.one_pos
  | cons s r ih =>
    have h' := dn_cons.mp h
    have h2 := ih h'.2
    have h3 : n * (vl n r + 1) ≤ n * n ^ r.length := Nat.mul_le_mul_left n h2
    rw [List.length_cons, Nat.pow_succ, Nat.mul_comm (n ^ r.length)]
    rw [Nat.mul_add] at h3
    show s + n * vl n r < _
    omega
theorem vl_zero (n k : Nat) : vl n (List.replicate k 0) = 0 := by
  induction k with
  | zero => rfl
  | succ k ih =>
    rw [List.replicate_succ]
    show 0 + n * vl n (List.replicate k 0) = 0
    rw [ih]
    simp
def Wd (n : Nat) : Nat → List Nat
  | 0 => []
  | j + 1 => nr n (Wd n j)
theorem sh_mono {n a b : Nat} (h : a ≤ b) : sh n a ≤ sh n b := by
  induction b with
  | zero => rw [show a = 0 by omega]; exact Nat.le_refl _
  | succ b ih =>
    by_cases c : a = b + 1
    · rw [c]; exact Nat.le_refl _
    · have := ih (by omega)
      show _ ≤ sh n b + n ^ b
      omega
theorem Wd_rk {n : Nat} (hn : 1 ≤ n) : ∀ j, dn n (Wd n j) ∧ sh n (Wd n j).length + vl n (Wd n j) = j := by
  intro j
  induction j with
  | zero => exact ⟨dn_nil, rfl⟩
  | succ j ih =>
    obtain ⟨h1, h2⟩ := ih
    refine ⟨nr_dn hn h1, ?_⟩
    show sh n (nr n (Wd n j)).length + vl n (nr n (Wd n j)) = j + 1
    by_cases c : tp n (Wd n j)
    · have h3 := vl_top c
      rw [nr_top c, List.length_replicate, vl_zero]
      show sh n (Wd n j).length + n ^ (Wd n j).length + 0 = j + 1
      omega
    · obtain ⟨e1, e2⟩ := nr_not h1 c
      rw [e1, e2]
      omega
theorem hm_0 (m : Nat) : hm 0 m = 1 := by
  induction m with
  | zero => rfl
  | succ m ih =>
    show hm 0 m + 0 ^ (m + 1) = 1
    rw [ih, Nat.zero_pow (by omega)]
theorem Wd_ok {n most j : Nat} (hj : j < hm n most) : dn n (Wd n j) ∧ (Wd n j).length ≤ most := by
  rcases Nat.eq_zero_or_pos n with h0 | h0
  · subst h0
    rw [hm_0] at hj
    rw [show j = 0 by omega]
    exact ⟨dn_nil, Nat.zero_le _⟩
  · obtain ⟨h1, h2⟩ := Wd_rk h0 j
    refine ⟨h1, ?_⟩
    rcases Nat.lt_or_ge most (Wd n j).length with h | h
    · have := sh_mono (n := n) (show most + 1 ≤ (Wd n j).length from h)
      rw [hm_sh] at hj
      omega
    · exact h
theorem Wd_last {n most j : Nat} (h0 : 1 ≤ n) (hj : j < hm n most) : j + 1 = hm n most ↔ ((Wd n j).length = most ∧ tp n (Wd n j)) := by
  obtain ⟨h1, h2⟩ := Wd_rk h0 j
  have h3 := (Wd_ok hj).2
  have h4 := vl_lt h1
  have hp : 1 ≤ n ^ most := Nat.one_le_pow _ _ h0
  have e : hm n most = sh n most + n ^ most := by rw [hm_sh]; rfl
  constructor
  · intro h
    rw [e] at h
    have hl : (Wd n j).length = most := by
      rcases Nat.lt_or_ge (Wd n j).length most with c | c
      · have := sh_mono (n := n) (show (Wd n j).length + 1 ≤ most from c)
        have e2 : sh n ((Wd n j).length + 1) = sh n (Wd n j).length + n ^ (Wd n j).length := rfl
        omega
      · omega
    refine ⟨hl, ?_⟩
    apply Classical.byContradiction
    intro c
    obtain ⟨e1, e2⟩ := nr_not h1 c
    have h5 := vl_lt (nr_dn h0 h1)
    rw [e1, e2] at h5
    rw [hl] at h2 h5
    omega
  · intro h
    have h5 := vl_top h.2
    rw [h.1] at h2 h5
    rw [e]
    omega
theorem Wd_one {most j : Nat} (hj : j < hm 0 most) : j + 1 = hm 0 most := by
  rw [hm_0] at hj ⊢
  omega
/-! arrays that hold a list -/
theorem arr_get {f : Nat → Int32} {x y : List Nat} {s : Nat} (h : arr f (x ++ s :: y)) : f x.length = nI s := by
  rw [h x.length (by simp)]
  simp
theorem arr_st {f : Nat → Int32} {x y : List Nat} {s : Nat} (s' : Nat) (h : arr f (x ++ s :: y)) : arr (upd f x.length (nI s')) (x ++ s' :: y) := by
  intro i hi
  by_cases c : i = x.length
  · subst c
    rw [pk_us]
    simp
  · rw [pk_un c, h i (by simp at hi ⊢; omega)]
    congr 1
    rw [List.getD_eq_getElem?_getD, List.getD_eq_getElem?_getD]
    rcases Nat.lt_or_ge i x.length with c2 | c2
    · rw [List.getElem?_append_left c2, List.getElem?_append_left c2]
    · rw [List.getElem?_append_right c2, List.getElem?_append_right c2]
      obtain ⟨k, hk⟩ : ∃ k, i - x.length = k + 1 := ⟨i - x.length - 1, by omega⟩
      rw [hk, List.getElem?_cons_succ, List.getElem?_cons_succ]
theorem arr_of {f g : Nat → Int32} {x : List Nat} (h : arr f x) (e : ∀ i, i < x.length → g i = f i) : arr g x := fun i hi => by rw [e i hi]; exact h i hi
/-! the reference's next word -/
theorem nx_zero (m : Nat) (hm : m ≤ 4) (fuel : Nat) : ∀ (i : Nat) (f : Nat → Int32), i ≤ m → m - i < fuel → (∀ k, k < i → f k = 0) → ∃ f', F_X11_nextSome_96L (nI m) fuel (nI i) f = some (1, nI m, f') ∧ ∀ k, k < m → f' k = 0 := by
  induction fuel with
  | zero => intro i f _ h; exact absurd h (Nat.not_lt_zero _)
  | succ fuel ih =>
    intro i f hi hf hz
    have e0 : F_X11_nextSome_96L (nI m) (fuel + 1) (nI i) f = F_X11_nextSome_96 (F_X11_nextSome_96L (nI m) fuel) (nI i) (nI m) f := rfl
    rw [e0]
    unfold F_X11_nextSome_96
    by_cases c : i = m
    · subst c
      rw [if_pos (nI_le (Nat.le_refl _) (by omega))]
      exact ⟨f, rfl, hz⟩
    · rw [if_neg (nI_ge (by omega) (by omega)), ck_ok rfl (show i < 4 by omega) (by decide), lt_e, lt_e, nI_1, nI_clamp (n := i) (by omega)]
      refine ih (i + 1) _ (by omega) (by omega) (fun k hk => ?_)
      by_cases c2 : k = i
      · subst c2; exact pk_us
      · rw [pk_un c2]; exact hz k (by omega)
theorem arr_zeros {f : Nat → Int32} {m : Nat} (h : ∀ k, k < m → f k = 0) : arr f (List.replicate m 0) := by
  intro i hi
  rw [List.length_replicate] at hi
  rw [h i hi, List.getD_eq_getElem?_getD, List.getElem?_replicate, if_pos hi]
  rfl
theorem xj_s (i : Nat) : xj (i + 1) = nI i := rfl
theorem nx_loop {n most : Nat} (hn : n ≤ 8) (hm4 : most ≤ 4) (fuel : Nat) : ∀ (b : List Nat) (k : Nat) (f : Nat → Int32), dn n b → k + b.length ≤ most → b.length < fuel → arr f (List.replicate k 0 ++ b).reverse →
    ∃ y sz f', F_X11_nextSome_14L (nI most) (nI n) (nI (k + b.length)) fuel (xj b.length) f = some (y, sz, f') ∧ ((y = 0 ∧ tp n b ∧ (k + b.length = most ∨ n = 0)) ∨ (y = 1 ∧ ¬ (tp n b ∧ (k + b.length = most ∨ n = 0)) ∧ sz = nI (List.replicate k 0 ++ nr n b).length ∧ arr f' (List.replicate k 0 ++ nr n b).reverse)) := by
  induction fuel with
  | zero => intro b k f _ _ h; exact absurd h (Nat.not_lt_zero _)
  | succ fuel ih =>
    intro b k f hb hk hf ha
    have e0 : F_X11_nextSome_14L (nI most) (nI n) (nI (k + b.length)) (fuel + 1) (xj b.length) f = F_X11_nextSome_14 (F_X11_nextSome_14L (nI most) (nI n) (nI (k + b.length)) fuel) (nI most) (nI n) (xj b.length) (nI (k + b.length)) f := rfl
    rw [e0]
    unfold F_X11_nextSome_14
    cases b with
    | nil =>
      rw [List.length_nil, Nat.add_zero] at hk ⊢
      rw [if_pos (show xj 0 < 0 by decide)]
      unfold F_X11_nextSome_43
      rw [if_pos (show xj 0 < 0 by decide)]
      by_cases c1 : k = most
      · rw [if_pos (by rw [c1])]
        exact ⟨_, _, _, rfl, Or.inl ⟨rfl, tp_nil, Or.inl c1⟩⟩
      · rw [if_neg (fun q => c1 ((nI_eq (by omega) (by omega)).mp q))]
        by_cases c2 : n = 0
        · rw [if_pos (by rw [c2]; rfl)]
          exact ⟨_, _, _, rfl, Or.inl ⟨rfl, tp_nil, Or.inr c2⟩⟩
        · rw [if_neg (fun q => c2 ((e0_ (by omega)).mp q)), ck_ok rfl (show k < 4 by omega) (by decide), lt_e, lt_e, nI_1]
          obtain ⟨f', e1, e2⟩ := nx_zero (k + 1) (by omega) fu_ 0 (upd f (Int32.toNatClampNeg (nI k)) 0) (Nat.zero_le _) (by unfold fu_; omega) (fun q hq => absurd hq (Nat.not_lt_zero q))
          have er : List.replicate k 0 ++ nr n [] = List.replicate (k + 1) 0 := by
            rw [List.replicate_succ']; rfl
          refine ⟨1, nI (k + 1), f', e1, Or.inr ⟨rfl, fun q => q.2.elim c1 c2, ?_, ?_⟩⟩
          · rw [er, List.length_replicate]
          · rw [er, List.reverse_replicate]
            exact arr_zeros e2
    | cons s b =>
      have hb' := dn_cons.mp hb
      rw [List.length_cons] at hk hf
      have hrev : (List.replicate k 0 ++ s :: b).reverse = b.reverse ++ s :: List.replicate k 0 := by simp
      rw [hrev] at ha
      have hg := arr_get ha
      rw [List.length_reverse] at hg
      have en : nI n - 1 = nI (n - 1) := by
        rw [show (1 : Int32) = nI 1 from rfl, pk_sub (by omega)]
      rw [List.length_cons, xj_s, if_neg (nI_pos (n := b.length) (by omega)), ck_ok rfl (show b.length < 4 by omega) (by decide), nI_clamp (n := b.length) (by omega), hg, en]
      by_cases c : s + 1 = n
      · rw [if_pos (by congr 1; omega), ck_ok rfl (show b.length < 4 by omega) (by decide), lt_e, lt_e, xj_dec]
        have ha2 := arr_st 0 ha
        rw [List.length_reverse] at ha2
        have hr2 : b.reverse ++ 0 :: List.replicate k 0 = (List.replicate (k + 1) 0 ++ b).reverse := by
          rw [List.reverse_append, List.reverse_replicate, List.replicate_succ]
        rw [hr2] at ha2
        have := ih b (k + 1) (upd f b.length 0) hb'.2 (by omega) (by omega) ha2
        rw [show k + 1 + b.length = k + (b.length + 1) by omega] at this
        have hnr : nr n (s :: b) = 0 :: nr n b := by
          show (if s + 1 < n then _ else _) = _
          rw [if_neg (by omega)]
        have hcat : List.replicate k 0 ++ nr n (s :: b) = List.replicate (k + 1) 0 ++ nr n b := by
          rw [hnr, List.replicate_succ', List.append_assoc]; rfl
        rw [hcat]
        obtain ⟨y, sz, f', e1, e2⟩ := this
        refine ⟨y, sz, f', e1, ?_⟩
        rcases e2 with ⟨q1, q2, q3⟩ | ⟨q1, q2, q3, q4⟩
        · exact Or.inl ⟨q1, tp_cons.mpr ⟨c, q2⟩, q3⟩
        · exact Or.inr ⟨q1, fun q => q2 ⟨(tp_cons.mp q.1).2, q.2⟩, q3, q4⟩
      · rw [if_neg (fun q => c (by have := (nI_eq (by omega) (by omega)).mp q; omega))]
        unfold F_X11_nextSome_43
        rw [if_neg (nI_pos (n := b.length) (by omega)), ck_ok rfl (show b.length < 4 by omega) (by decide), ck_ok rfl (show b.length < 4 by omega) (by decide), lt_e, nI_clamp (n := b.length) (by omega), hg, nI_1]
        have hnr : nr n (s :: b) = (s + 1) :: b := by
          show (if s + 1 < n then _ else _) = _
          rw [if_pos (by omega)]
        have ha2 := arr_st (s + 1) ha
        rw [List.length_reverse] at ha2
        refine ⟨_, _, _, rfl, Or.inr ⟨rfl, fun q => c (tp_cons.mp q.1).1, ?_, ?_⟩⟩
        · rw [hnr]; simp
        · rw [hnr]
          have hr2 : (List.replicate k 0 ++ (s + 1) :: b).reverse = b.reverse ++ (s + 1) :: List.replicate k 0 := by simp
          rw [hr2]
          exact ha2
/-- the reference goes from word j to word j + 1, or says that there is none -/
theorem m_next {n most j : Nat} {now f : Nat → Int32} (hn : n ≤ 8) (hm4 : most ≤ 4) (h0 : now 0 = nI n) (hj : j < hm n most) (ha : arr f (Wd n j).reverse) :
    ∃ y sz f', F_X11_nextSome (nI most) (nI (Wd n j).length) now f = some (y, sz, f') ∧ ((y = 0 ∧ j + 1 = hm n most) ∨ (y = 1 ∧ j + 1 < hm n most ∧ sz = nI (Wd n (j + 1)).length ∧ arr f' (Wd n (j + 1)).reverse)) := by
  obtain ⟨h1, h2⟩ := Wd_ok hj
  obtain ⟨y, sz, f', e1, e2⟩ := nx_loop hn hm4 fu_ (Wd n j) 0 f h1 (by omega) (by unfold fu_; omega) (by simpa using ha)
  rw [Nat.zero_add] at e1 e2
  refine ⟨y, sz, f', ?_, ?_⟩
  · unfold F_X11_nextSome F_X11_nextSome_0
    have hx : nI (Wd n j).length - 1 = xj (Wd n j).length := by
      cases (Wd n j).length with
      | zero => decide
      | succ n => exact nI_pred n
    rw [show (0 : Int32) = nI 0 from rfl, ck_ok rfl (show 0 < 1600 by decide) (by decide), lt_e, lt_e, nI_clamp (n := 0) (by decide), h0, hx]
    exact e1
  · rcases e2 with ⟨q1, q2, q3⟩ | ⟨q1, q2, q3, q4⟩
    · refine Or.inl ⟨q1, ?_⟩
      rcases Nat.eq_zero_or_pos n with c | c
      · subst c; exact Wd_one hj
      · exact (Wd_last c hj).mpr ⟨q3.resolve_right (by omega), q2⟩
    · refine Or.inr ⟨q1, ?_, q3, q4⟩
      rcases Nat.lt_or_ge (j + 1) (hm n most) with c | c
      · exact c
      · exfalso
        rcases Nat.eq_zero_or_pos n with c2 | c2
        · subst c2
          rw [hm_0] at hj
          have hj0 : j = 0 := by omega
          subst hj0
          exact q2 ⟨tp_nil, Or.inr rfl⟩
        · have := (Wd_last c2 hj).mp (by omega)
          exact q2 ⟨this.2, Or.inl this.1⟩
