/-! the reference takes a word, tells a word -/
theorem m_takeWordL {m : Nat} (hm : m ≤ 16) (now : Nat → Int32) (fuel : Nat) : ∀ (i : Nat) (w : Nat → Int32), i ≤ m → m - i < fuel → (∀ k, k < i → w k = now (800 + k)) → ∃ w', F_X11_takeWord_12L (nI m) now fuel (nI i) w = some (nI m, w') ∧ ∀ k, k < m → w' k = now (800 + k) := by
  induction fuel with
  | zero => intro i w _ h; exact absurd h (Nat.not_lt_zero _)
  | succ fuel ih =>
    intro i w hi hf hz
    have e0 : F_X11_takeWord_12L (nI m) now (fuel + 1) (nI i) w = F_X11_takeWord_12 (F_X11_takeWord_12L (nI m) now fuel) (nI i) (nI m) now w := rfl
    rw [e0]
    unfold F_X11_takeWord_12
    by_cases c : i = m
    · subst c
      rw [if_pos (nI_le (Nat.le_refl _) (by omega))]
      exact ⟨w, rfl, hz⟩
    · have e8 : (800 : Int32) + nI i = nI (800 + i) := nI_add 800 i
      rw [if_neg (nI_ge (by omega) (by omega)), e8, ck_ok rfl (show 800 + i < 1600 by omega) (by decide), ck_ok rfl (show i < 16 by omega) (by decide), lt_e, lt_e, nI_1, nI_clamp (n := i) (by omega), nI_clamp (n := 800 + i) (by omega)]
      refine ih (i + 1) _ (by omega) (by omega) (fun k hk => ?_)
      by_cases c2 : k = i
      · subst c2; exact pk_us
      · rw [pk_un c2]; exact hz k (by omega)
theorem m_takeWord {now : Nat → Int32} {r : List Nat} (hr : r.length ≤ 16) (h4 : now 4 = nI r.length) (ha : arr (fun i => now (800 + i)) r.reverse) (sz : Int32) (w : Nat → Int32) : ∃ w', F_X11_takeWord sz now w = some (nI r.length, w') ∧ arr w' r.reverse := by
  obtain ⟨w', e1, e2⟩ := m_takeWordL hr now fu_ 0 w (Nat.zero_le _) (by unfold fu_; omega) (fun q hq => absurd hq (Nat.not_lt_zero q))
  refine ⟨w', ?_, arr_of ha (fun i hi => by rw [List.length_reverse] at hi; exact e2 i hi)⟩
  unfold F_X11_takeWord F_X11_takeWord_0
  rw [show (4 : Int32) = nI 4 from rfl, ck_ok rfl (show 4 < 1600 by decide) (by decide), lt_e, nI_clamp (n := 4) (by decide), h4]
  exact e1
theorem m_takeSomeL {m : Nat} (hm : m ≤ 4) (src : Nat → Int32) (fuel : Nat) : ∀ (i : Nat) (w : Nat → Int32), i ≤ m → m - i < fuel → (∀ k, k < i → w k = src k) → ∃ w', F_X11_takeSome_10L (nI m) src fuel (nI i) w = some (nI m, w') ∧ ∀ k, k < m → w' k = src k := by
  induction fuel with
  | zero => intro i w _ h; exact absurd h (Nat.not_lt_zero _)
  | succ fuel ih =>
    intro i w hi hf hz
    have e0 : F_X11_takeSome_10L (nI m) src (fuel + 1) (nI i) w = F_X11_takeSome_10 (F_X11_takeSome_10L (nI m) src fuel) (nI i) (nI m) src w := rfl
    rw [e0]
    unfold F_X11_takeSome_10
    by_cases c : i = m
    · subst c
      rw [if_pos (nI_le (Nat.le_refl _) (by omega))]
      exact ⟨w, rfl, hz⟩
    · rw [if_neg (nI_ge (by omega) (by omega)), ck_ok rfl (show i < 4 by omega) (by decide), ck_ok rfl (show i < 16 by omega) (by decide), lt_e, lt_e, nI_1, nI_clamp (n := i) (by omega)]
      refine ih (i + 1) _ (by omega) (by omega) (fun k hk => ?_)
      by_cases c2 : k = i
      · subst c2; exact pk_us
      · rw [pk_un c2]; exact hz k (by omega)
theorem m_takeSome {src : Nat → Int32} {r : List Nat} (hr : r.length ≤ 4) (ha : arr src r.reverse) (sz : Int32) (w : Nat → Int32) : ∃ w', F_X11_takeSome sz (nI r.length) src w = some (nI r.length, w') ∧ arr w' r.reverse := by
  obtain ⟨w', e1, e2⟩ := m_takeSomeL hr src fu_ 0 w (Nat.zero_le _) (by unfold fu_; omega) (fun q hq => absurd hq (Nat.not_lt_zero q))
  exact ⟨w', e1, arr_of ha (fun i hi => by rw [List.length_reverse] at hi; exact e2 i hi)⟩
/-- only THE RESULT differs -/
def rsl (now now' : Nat → Int32) : Prop := ∀ k, k ≠ 7 → (k < 816 ∨ 848 ≤ k) → now' k = now k
theorem rsl_rf (now : Nat → Int32) : rsl now now := fun _ _ _ => rfl
theorem rsl_tr {a b c : Nat → Int32} (h1 : rsl a b) (h2 : rsl b c) : rsl a c := fun k h3 h4 => (h2 k h3 h4).trans (h1 k h3 h4)
theorem m_tellL {m : Nat} (hm : m ≤ 16) (w now0 : Nat → Int32) (fuel : Nat) : ∀ (i : Nat) (now : Nat → Int32), i ≤ m → m - i < fuel → rsl now0 now → now 7 = nI m → (∀ k, k < i → now (816 + k) = w k) → ∃ now', F_X11_tell_13L (nI m) w fuel (nI i) now = some (nI m, now') ∧ rsl now0 now' ∧ now' 7 = nI m ∧ ∀ k, k < m → now' (816 + k) = w k := by
  induction fuel with
  | zero => intro i now _ h; exact absurd h (Nat.not_lt_zero _)
  | succ fuel ih =>
    intro i now hi hf hs h7 hz
    have e0 : F_X11_tell_13L (nI m) w (fuel + 1) (nI i) now = F_X11_tell_13 (F_X11_tell_13L (nI m) w fuel) (nI i) (nI m) now w := rfl
    rw [e0]
    unfold F_X11_tell_13
    by_cases c : i = m
    · subst c
      rw [if_pos (nI_le (Nat.le_refl _) (by omega))]
      exact ⟨now, rfl, hs, h7, hz⟩
    · have e8 : (816 : Int32) + nI i = nI (816 + i) := nI_add 816 i
      rw [if_neg (nI_ge (by omega) (by omega)), e8, ck_ok rfl (show i < 16 by omega) (by decide), ck_ok rfl (show 816 + i < 1600 by omega) (by decide), lt_e, lt_e, nI_1, nI_clamp (n := i) (by omega), nI_clamp (n := 816 + i) (by omega)]
      refine ih (i + 1) _ (by omega) (by omega) (fun k h1 h2 => ?_) (by rw [pk_un (by omega)]; exact h7) (fun k hk => ?_)
      · rw [pk_un (by omega)]; exact hs k h1 h2
      · by_cases c2 : k = i
        · subst c2; exact pk_us
        · rw [pk_un (by omega)]; exact hz k (by omega)
/-- THE RESULT is the word r -/
def OCr (now : Nat → Int32) (r : List Nat) : Prop := now 7 = nI r.length ∧ arr (fun i => now (816 + i)) r.reverse
theorem m_tell {now w : Nat → Int32} {r : List Nat} (hr : r.length ≤ 16) (ha : arr w r.reverse) : ∃ now', F_X11_tell (nI r.length) now w = some (nI r.length, now') ∧ rsl now now' ∧ OCr now' r := by
  unfold F_X11_tell F_X11_tell_0
  rw [show (7 : Int32) = nI 7 from rfl, ck_ok rfl (show 7 < 1600 by decide) (by decide), lt_e, nI_clamp (n := 7) (by decide)]
  obtain ⟨now', e1, e2, e3, e4⟩ := m_tellL hr w now fu_ 0 (upd now 7 (nI r.length)) (Nat.zero_le _) (by unfold fu_; omega) (fun k h1 _ => pk_un h1) pk_us (fun q hq => absurd hq (Nat.not_lt_zero q))
  exact ⟨now', e1, e2, e3, arr_of ha (fun i hi => by rw [List.length_reverse] at hi; exact e4 i hi)⟩
theorem m_tellSomeL {m : Nat} (hm : m ≤ 4) (w now0 : Nat → Int32) (fuel : Nat) : ∀ (i : Nat) (now : Nat → Int32), i ≤ m → m - i < fuel → rsl now0 now → now 7 = nI m → (∀ k, k < i → now (816 + k) = w k) → ∃ now', F_X11_tellSome_13L (nI m) w fuel (nI i) now = some now' ∧ rsl now0 now' ∧ now' 7 = nI m ∧ ∀ k, k < m → now' (816 + k) = w k := by
  induction fuel with
  | zero => intro i now _ h; exact absurd h (Nat.not_lt_zero _)
  | succ fuel ih =>
    intro i now hi hf hs h7 hz
    have e0 : F_X11_tellSome_13L (nI m) w (fuel + 1) (nI i) now = F_X11_tellSome_13 (F_X11_tellSome_13L (nI m) w fuel) (nI i) (nI m) now w := rfl
    rw [e0]
    unfold F_X11_tellSome_13
    by_cases c : i = m
    · subst c
      rw [if_pos (nI_le (Nat.le_refl _) (by omega))]
      exact ⟨now, rfl, hs, h7, hz⟩
    · have e8 : (816 : Int32) + nI i = nI (816 + i) := nI_add 816 i
      rw [if_neg (nI_ge (by omega) (by omega)), e8, ck_ok rfl (show i < 4 by omega) (by decide), ck_ok rfl (show 816 + i < 1600 by omega) (by decide), lt_e, lt_e, nI_1, nI_clamp (n := i) (by omega), nI_clamp (n := 816 + i) (by omega)]
      refine ih (i + 1) _ (by omega) (by omega) (fun k h1 h2 => ?_) (by rw [pk_un (by omega)]; exact h7) (fun k hk => ?_)
      · rw [pk_un (by omega)]; exact hs k h1 h2
      · by_cases c2 : k = i
        · subst c2; exact pk_us
        · rw [pk_un (by omega)]; exact hz k (by omega)
theorem m_tellSome {now w : Nat → Int32} {r : List Nat} (hr : r.length ≤ 4) (ha : arr w r.reverse) : ∃ now', F_X11_tellSome (nI r.length) now w = some now' ∧ rsl now now' ∧ OCr now' r := by
  unfold F_X11_tellSome F_X11_tellSome_0
  rw [show (7 : Int32) = nI 7 from rfl, ck_ok rfl (show 7 < 1600 by decide) (by decide), lt_e, nI_clamp (n := 7) (by decide)]
  obtain ⟨now', e1, e2, e3, e4⟩ := m_tellSomeL hr w now fu_ 0 (upd now 7 (nI r.length)) (Nat.zero_le _) (by unfold fu_; omega) (fun k h1 _ => pk_un h1) pk_us (fun q hq => absurd hq (Nat.not_lt_zero q))
  exact ⟨now', e1, e2, e3, arr_of ha (fun i hi => by rw [List.length_reverse] at hi; exact e4 i hi)⟩
/-! the reference's number of a word -/
def cf (a : Nat) (xs : List Nat) : Nat := xs.foldl (fun a s => a * 8 + s) a
def cdn (a : Nat) : List Nat → Nat
  | [] => a
  | s :: r => cdn a r * 8 + s
theorem cf_cdn (a : Nat) (x : List Nat) : cf a x.reverse = cdn a x := by
  induction x with
  | nil => rfl
  | cons s r ih =>
    unfold cf at ih ⊢
    rw [List.reverse_cons, List.foldl_append, ih]
    rfl
def cdw (x : List Nat) : Nat := cdn x.length x * 32 + x.length
def co (o : Option (List Nat)) : Int64 := match o with
  | none => -1
  | some x => lN (cdw x)
theorem cdn_inj {a b : Nat} : ∀ {x y : List Nat}, x.length = y.length → dg x → dg y → cdn a x = cdn b y → x = y := by
  intro x
  induction x with
  | nil => intro y hl _ _ _; cases y with
    | nil => rfl
    | cons t q => simp at hl
  | cons s r ih =>
    intro y hl hx hy h
    cases y with
    | nil => simp at hl
    | cons t q =>
      have hx' := dg_cons.mp hx
      have hy' := dg_cons.mp hy
      have h' : cdn a r * 8 + s = cdn b q * 8 + t := h
      have e1 : s = t := by omega
      have e2 : cdn a r = cdn b q := by omega
      rw [e1, ih (by simpa using hl) hx'.2 hy'.2 e2]
theorem cdn_lt {a : Nat} {x : List Nat} (h : dg x) : cdn a x < (a + 1) * 8 ^ x.length := by
  induction x with
  | nil => simp [cdn]
  | cons s r ih =>
    have h' := dg_cons.mp h
    have h2 := ih h'.2
    rw [List.length_cons, Nat.pow_succ, ← Nat.mul_assoc]
    show cdn a r * 8 + s < _
    omega
theorem cdw_lt {x : List Nat} (h : dg x) (hl : x.length ≤ 16) : cdw x < 2 ^ 62 := by
  have h1 := cdn_lt (a := x.length) h
  have h2 : 8 ^ x.length ≤ 8 ^ 16 := Nat.pow_le_pow_right (by decide) hl
  have h3 : (x.length + 1) * 8 ^ x.length ≤ 17 * 8 ^ 16 := Nat.mul_le_mul (by omega) h2
  have h4 : (17 * 8 ^ 16) * 32 + 32 < 2 ^ 62 := by decide
  unfold cdw
  omega
theorem cdw_inj {x y : List Nat} (hx : dg x) (hy : dg y) (lx : x.length ≤ 16) (ly : y.length ≤ 16) (h : cdw x = cdw y) : x = y := by
  unfold cdw at h
  have e1 : x.length = y.length := by omega
  have e2 : cdn x.length x = cdn y.length y := by omega
  exact cdn_inj e1 hx hy e2
/-- what a word is led to is in order -/
def okW (o : Option (List Nat)) : Prop := ∀ x, o = some x → dg x ∧ x.length ≤ 16
theorem lN_nm1 {n : Nat} (h : n < 2 ^ 62) : ¬ lN n = -1 := by
  intro q
  have h1 := pk_lT (n := n) (by omega)
  rw [q] at h1
  have h2 : (-1 : Int64).toInt = -1 := by decide
  omega
theorem co_inj {a b : Option (List Nat)} (ha : okW a) (hb : okW b) : co a = co b ↔ a = b := by
  refine ⟨fun h => ?_, fun h => by rw [h]⟩
  cases a with
  | none =>
    cases b with
    | none => rfl
    | some y =>
      have := cdw_lt (hb y rfl).1 (hb y rfl).2
      exact absurd h.symm (lN_nm1 this)
  | some x =>
    have hx := cdw_lt (ha x rfl).1 (ha x rfl).2
    cases b with
    | none => exact absurd h (lN_nm1 hx)
    | some y =>
      have hy := cdw_lt (hb y rfl).1 (hb y rfl).2
      have := (pk_lEQ (a := cdw x) (b := cdw y) (by omega) (by omega)).mp h
      rw [cdw_inj (ha x rfl).1 (hb y rfl).1 (ha x rfl).2 (hb y rfl).2 this]
theorem wo_inj {a b : Option (List Nat)} (ha : okW a) (hb : okW b) : wo a = wo b ↔ a = b := by
  refine ⟨fun h => ?_, fun h => by rw [h]⟩
  cases a with
  | none =>
    cases b with
    | none => rfl
    | some y => exact absurd h.symm (wl_ne0 (hb y rfl).1 (by have := (hb y rfl).2; omega))
  | some x =>
    cases b with
    | none => exact absurd h (wl_ne0 (ha x rfl).1 (by have := (ha x rfl).2; omega))
    | some y =>
      have h1 := ha x rfl
      have h2 := hb y rfl
      rw [(wl_inj h1.1 h2.1 (by omega) (by omega)).mp h]
theorem okW_some {x : List Nat} (h : dg x) (hl : x.length ≤ 16) : okW (some x) := fun y e => by cases e; exact ⟨h, hl⟩
theorem m_codeL {xs : List Nat} (hl : xs.length ≤ 16) (hd : dg xs) (mk ch : Int32) (made : Nat → Int32) {word : Nat → Int32} (hw : arr word xs) (fuel : Nat) : ∀ (i a : Nat), i ≤ xs.length → xs.length - i < fuel → F_X11_code_19L (nI xs.length) mk ch made word fuel (lN a) (nI i) = some (lN (cf a (xs.drop i) * 32 + xs.length), nI xs.length, mk, ch, made, word) := by
  induction fuel with
  | zero => intro i a _ h; exact absurd h (Nat.not_lt_zero _)
  | succ fuel ih =>
    intro i a hi hf
    have e0 : F_X11_code_19L (nI xs.length) mk ch made word (fuel + 1) (lN a) (nI i) = F_X11_code_19 (F_X11_code_19L (nI xs.length) mk ch made word fuel) (lN a) (nI i) (nI xs.length) mk ch made word := rfl
    rw [e0]
    unfold F_X11_code_19
    by_cases c : i = xs.length
    · rw [if_pos (by rw [c]; exact nI_le (Nat.le_refl _) (by omega)), c, List.drop_length, show (32 : Int64) = lN 32 from rfl, lN_mul, nI_l (by omega), lN_add]
      rfl
    · have hi2 : i < xs.length := by omega
      have h8 := dg_at hd i
      rw [if_neg (nI_ge hi2 (by omega)), ck_ok rfl (show i < 16 by omega) (by decide), lt_e, lt_e, nI_1, nI_clamp (n := i) (by omega), hw i hi2, show (8 : Int64) = lN 8 from rfl, lN_mul, nI_l (by omega), lN_add, ih (i + 1) _ (by omega) (by omega), drop_hd hi2]
      rfl
theorem m_code {now : Nat → Int32} {ns nl : Nat} {ls : List Nat} {row : Nat → Int32} (hI : LI now ns nl) (hls : arr row ls) (h36 : ls.length ≤ 36) (hv : dn nl ls) {r : List Nat} (mk0 ch0 : Int32) (made word : Nat → Int32) (hr : dn ns r) (hrl : r.length ≤ 16) (hw : arr word r.reverse) (hok : okW (ldA now ls r)) :
    ∃ sz mk ch made' word', F_X11_code (nI ls.length) (nI r.length) mk0 ch0 made now row word = some (co (ldA now ls r), sz, mk, ch, made', word') := by
  obtain ⟨sz, mk, ch, made', word', e1, e2⟩ := m_goAll hI hls h36 hv mk0 ch0 made word hr hrl hw
  unfold F_X11_code F_X11_code_0
  rw [e1]
  cases ho : ldA now ls r with
  | none => exact ⟨sz, mk, ch, made', word', rfl⟩
  | some x =>
    obtain ⟨q1, q2⟩ := e2 x ho
    have hx := hok x ho
    refine ⟨nI x.length, mk, ch, made', word', ?_⟩
    have := m_codeL (xs := x.reverse) (by rw [List.length_reverse]; exact hx.2) (dg_rev.mpr hx.1) mk ch made' q2 fu_ 0 x.length (Nat.zero_le _) (by rw [List.length_reverse]; unfold fu_; omega)
    rw [List.length_reverse, List.drop_zero, cf_cdn] at this
    rw [q1, show (if (some x).isSome = true then (1 : Int32) else 0) = 1 from rfl]
    have e6 : ∀ (k : Int32 → Int32 → Int32 → Int32 → (Nat → Int32) → (Nat → Int32) → Option (Int64 × Int32 × Int32 × Int32 × (Nat → Int32) × (Nat → Int32))) (a b c d : Int32) (f g : Nat → Int32), bn6_ (some (a, b, c, d, f, g)) k = k a b c d f g := fun _ _ _ _ _ _ _ => rfl
    rw [e6, if_neg (by decide), lt_e, nI_l (by omega)]
    exact this
theorem ldA_dn {now : Nat → Int32} {ns nl : Nat} (hI : LI now ns nl) : ∀ (ls : List Nat) (r x : List Nat), dn nl ls → dn ns r → r.length ≤ 16 → ldA now ls r = some x → dn ns x ∧ x.length ≤ 16 := by
  intro ls
  induction ls with
  | nil => intro r x _ hr hl h; cases h; exact ⟨hr, hl⟩
  | cons l ls ih =>
    intro r x hv hr hl h
    have hv' := dn_cons.mp hv
    have h' : (ld1 now l r).bind (ldA now ls) = some x := h
    cases hx : ld1 now l r with
    | none => rw [hx] at h'; cases h'
    | some y =>
      rw [hx] at h'
      obtain ⟨ey, hyl⟩ := ld1_some hx
      exact ih y x hv'.2 (by rw [ey]; exact ap_dn hI hv'.1 hr) hyl h'
theorem ldA_ok {now : Nat → Int32} {ns nl : Nat} (hI : LI now ns nl) {ls r : List Nat} (hv : dn nl ls) (hr : dn ns r) (hl : r.length ≤ 16) : okW (ldA now ls r) := fun x h => by
  have := ldA_dn hI ls r x hv hr hl h
  exact ⟨dn_dg this.1 hI.2.1, this.2⟩
theorem m_codeOfL {xs : List Nat} (hl : xs.length ≤ 16) (hd : dg xs) {now : Nat → Int32} {at0 : Nat} (ha0 : at0 + 16 ≤ 1600) (hw : arr (fun i => now (at0 + i)) xs) (fuel : Nat) : ∀ (i a : Nat), i ≤ xs.length → xs.length - i < fuel → F_X11_codeOf_6L (nI at0) (nI xs.length) now fuel (lN a) (nI i) = some (lN (cf a (xs.drop i) * 32 + xs.length)) := by
  induction fuel with
  | zero => intro i a _ h; exact absurd h (Nat.not_lt_zero _)
  | succ fuel ih =>
    intro i a hi hf
    have e0 : F_X11_codeOf_6L (nI at0) (nI xs.length) now (fuel + 1) (lN a) (nI i) = F_X11_codeOf_6 (F_X11_codeOf_6L (nI at0) (nI xs.length) now fuel) (nI at0) (nI xs.length) (lN a) (nI i) now := rfl
    rw [e0]
    unfold F_X11_codeOf_6
    by_cases c : i = xs.length
    · rw [if_pos (by rw [c]; exact nI_le (Nat.le_refl _) (by omega)), c, List.drop_length, show (32 : Int64) = lN 32 from rfl, lN_mul, nI_l (by omega), lN_add]
      rfl
    · have hi2 : i < xs.length := by omega
      have h8 := dg_at hd i
      have hwi : now (at0 + i) = nI (xs.getD i 0) := hw i hi2
      rw [if_neg (nI_ge hi2 (by omega)), nI_add, ck_ok rfl (show at0 + i < 1600 by omega) (by decide), lt_e, lt_e, nI_1, nI_clamp (n := at0 + i) (by omega), hwi, show (8 : Int64) = lN 8 from rfl, lN_mul, nI_l (by omega), lN_add, ih (i + 1) _ (by omega) (by omega), drop_hd hi2]
      rfl
theorem m_codeOf {now : Nat → Int32} {at0 : Nat} {x : List Nat} (ha0 : at0 + 16 ≤ 1600) (hx : dg x) (hl : x.length ≤ 16) (ha : arr (fun i => now (at0 + i)) x.reverse) : F_X11_codeOf (nI at0) (nI x.length) now = some (co (some x)) := by
  unfold F_X11_codeOf F_X11_codeOf_0
  have := m_codeOfL (xs := x.reverse) (by rw [List.length_reverse]; exact hl) (dg_rev.mpr hx) ha0 ha fu_ 0 x.length (Nat.zero_le _) (by rw [List.length_reverse]; unfold fu_; omega)
  rw [List.length_reverse, List.drop_zero, cf_cdn] at this
  rw [lt_e, nI_l (by omega)]
  exact this
