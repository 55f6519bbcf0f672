/-! led, check: a word step by step -/
theorem ap_c {now now' : Nat → Int32} (e : ∀ i, 16 ≤ i → i < 240 → now' i = now i) {l : Nat} (hl : l < 16) (r : List Nat) : ap now' l r = ap now l r := by
  unfold ap gn
  rw [e (48 + l) (by omega) (by omega), e (64 + l) (by omega) (by omega), e (80 + l) (by omega) (by omega)]
  have h : ∀ w, w < 3 → fsb now' l w = fsb now l w := fun w hw => funext fun q => fsb_c (fun i h1 h2 => e i h1 (by omega)) (fun i h1 h2 => e i (by omega) h2) hl hw
  rw [h 0 (by decide), h 1 (by decide), h 2 (by decide)]
theorem ldA_k (now : Nat → Int32) (l : Nat) (ls r : List Nat) : ldA now (l :: ls) r = (ld1 now l r).bind (ldA now ls) := rfl
theorem ld1_c {now now' : Nat → Int32} (e : ∀ i, 16 ≤ i → i < 240 → now' i = now i) {l : Nat} (hl : l < 16) (r : List Nat) : ld1 now' l r = ld1 now l r := by
  unfold ld1
  rw [ap_c e hl]
theorem bnd0 {f : List Nat → Option (List Nat)} : (none : Option (List Nat)).bind f = none := rfl
theorem bnd1 {f : List Nat → Option (List Nat)} (x : List Nat) : (some x).bind f = f x := rfl
theorem ldA_c {now now' : Nat → Int32} (e : ∀ i, 16 ≤ i → i < 240 → now' i = now i) {nl : Nat} (hnl : nl ≤ 16) : ∀ (ls : List Nat) (r : List Nat), dn nl ls → ldA now' ls r = ldA now ls r := by
  intro ls
  induction ls with
  | nil => intro r _; rfl
  | cons l ls ih =>
    intro r h
    have h' := dn_cons.mp h
    rw [ldA_k, ldA_k, ld1_c e (Nat.lt_of_lt_of_le h'.1 hnl)]
    cases ld1 now l r with
    | none => rw [bnd0, bnd0]
    | some x => rw [bnd1, bnd1]; exact ih x h'.2
theorem dn_at {n i : Nat} {xs : List Nat} (h : dn n xs) (hi : i < xs.length) : xs.getD i 0 < n := by
  have hm : xs.getD i 0 ∈ xs := by
    rw [List.getD_eq_getElem?_getD, List.getElem?_eq_getElem hi]
    exact List.getElem_mem hi
  exact h _ hm
theorem dn_take {n i : Nat} {xs : List Nat} (h : dn n xs) : dn n (xs.take i) := fun s hs => h s (List.mem_of_mem_take hs)
section STP
variable {now : Nat → Int32} {ns nl : Nat} {ls r : List Nat}
theorem stp_s (k : Nat) (hk : k < ls.length) : ldA now (ls.take (k + 1)) r = (ldA now (ls.take k) r).bind (ld1 now (ls.getD k 0)) := by
  have e : ls.take (k + 1) = ls.take k ++ [ls.getD k 0] := by
    rw [List.take_succ, List.getD_eq_getElem?_getD, List.getElem?_eq_getElem hk]
    rfl
  rw [e, ldA_app]
  congr 1
  funext x
  show (ld1 now (ls.getD k 0) x).bind (ldA now []) = _
  cases ld1 now (ls.getD k 0) x with
  | none => rfl
  | some y => rfl
theorem stp_some {g : List Nat} (h : ldA now ls r = some g) (k : Nat) : ∃ x, ldA now (ls.take k) r = some x := by
  have e : ldA now ls r = (ldA now (ls.take k) r).bind (ldA now (ls.drop k)) := by rw [← ldA_app, List.take_append_drop]
  rw [h] at e
  cases hx : ldA now (ls.take k) r with
  | none => rw [hx] at e; cases e
  | some x => exact ⟨x, rfl⟩
theorem stp_none {k : Nat} (h : ldA now (ls.take k) r = none) : ldA now ls r = none := by
  rw [← List.take_append_drop k ls, ldA_app, h]
  rfl
/-- what the class notes of the first n steps -/
def PTc (now : Nat → Int32) (ls r : List Nat) (n : Nat) (tA : Nat → Int32) (wA : Nat → Int64) : Prop := ∀ k, k < n → ∀ y x, ldA now (ls.take k) r = some y → ldA now (ls.take (k + 1)) r = some x → wA k = wl x ∧ tA k = nI (ap now (ls.getD k 0) y).2
theorem c_walkL {vf vh vi vk : Nat → Int32} {row : Nat → Int32} (pc : Int32) (hI : LI now ns nl) (hC : LC now ns nl vf vh vi vk) (hls : arr row ls) (h36 : ls.length ≤ 36) (hv : dn nl ls) (hr : dn ns r) (hrl : r.length ≤ 16) (fuel : Nat) :
    ∀ (i : Nat) (tA : Nat → Int32) (wA : Nat → Int64) (t : Int32), i ≤ ls.length → ls.length - i + 1 < fuel → PTc now ls r i tA wA → ∃ tA' wA' t', F_X0_walk_40L pc (nI ls.length) row vf vh vi vk fuel (wo (ldA now (ls.take i) r)) (nI i) tA wA t = some (wo (ldA now ls r), pc, tA', wA', nI ls.length, row, t') ∧ PTc now ls r ls.length tA' wA' := by
  induction fuel with
  | zero => intro i tA wA t _ h; exact absurd h (Nat.not_lt_zero _)
  | succ fuel ih =>
    intro i tA wA t hi hf hp
    have e0 : F_X0_walk_40L pc (nI ls.length) row vf vh vi vk (fuel + 1) (wo (ldA now (ls.take i) r)) (nI i) tA wA t = F_X0_walk_40 (F_X0_walk_40L pc (nI ls.length) row vf vh vi vk fuel) (wo (ldA now (ls.take i) r)) (nI i) pc tA wA (nI ls.length) row t vf vh vi vk := rfl
    rw [e0]
    unfold F_X0_walk_40
    by_cases c : i = ls.length
    · rw [if_pos (by rw [c]; exact nI_le (Nat.le_refl _) (by omega))]
      subst c
      rw [List.take_length]
      exact ⟨tA, wA, t, rfl, hp⟩
    · have hi2 : i < ls.length := by omega
      rw [if_neg (nI_ge hi2 (by omega))]
      cases hx : ldA now (ls.take i) r with
      | none =>
        rw [if_pos (show wo none = 0 from rfl), stp_none hx]
        refine ⟨tA, wA, t, rfl, fun k hk y x h1 h2 => ?_⟩
        rcases Nat.lt_or_ge k i with h | h
        · exact hp k h y x h1 h2
        · exfalso
          have : ldA now (ls.take k) r = none := by
            have e : ls.take i = (ls.take k).take i := by rw [List.take_take, Nat.min_eq_left h]
            rw [e] at hx
            exact stp_none hx
          rw [this] at h1
          cases h1
      | some y =>
        have hy := ldA_dn hI _ r y (dn_take hv) hr hrl hx
        have hl := dn_at hv hi2
        rw [if_neg (by rw [wo_some]; exact wl_ne0 (dn_dg hy.1 hI.2.1) (by omega)), wo_some, ck_ok rfl (show i < 36 by omega) (by decide), nI_clamp (n := i) (by omega), hls i hi2]
        obtain ⟨t', e1, e2⟩ := lead_ap hI hC hl hy.1 hy.2 t
        rw [e1, b2_s, ck_ok rfl (show i < 36 by omega) (by decide), lt_e, ck_ok rfl (show i < 36 by omega) (by decide), lt_e, lt_e, nI_1]
        have hs := stp_s (now := now) (ls := ls) (r := r) i hi2
        rw [hx] at hs
        have hs' : ldA now (ls.take (i + 1)) r = ld1 now (ls.getD i 0) y := hs
        rw [← hs']
        refine ih (i + 1) _ _ t' (by omega) (by omega) (fun k hk y2 x2 h1 h2 => ?_)
        by_cases ck : k = i
        · subst ck
          rw [hx] at h1
          cases h1
          rw [pk_uLs, pk_us, h2]
          refine ⟨rfl, e2 ?_⟩
          rw [hs'] at h2
          have := ld1_some h2
          rw [← this.1]; exact this.2
        · rw [pk_uLn ck, pk_un ck]
          exact hp k (by omega) y2 x2 h1 h2
theorem c_walk {vf vh vi vk par oc : Nat → Int32} {own : Nat → Nat → Int32} {nt t : Nat} (hI : LI now ns nl) (hC : LC now ns nl vf vh vi vk) (hT : TI now nt nl) (hTC : TC now nt par oc own) (ht : t < nt) (hr : dn ns r) (hrl : r.length ≤ 16) (pc0 : Int32) (tA : Nat → Int32) (wA : Nat → Int64) (rc0 : Int32) (rl0 : Nat → Int32) (t0 : Int32) :
    ∃ tA' wA' row t', F_X0_walk (nI t) pc0 tA wA rc0 rl0 (wl r) t0 vf vh vi vk (nI nt) own oc par = some (wo (ldA now (rows now t) r), nI (rows now t).length, tA', wA', nI (rows now t).length, row, t') ∧ PTc now (rows now t) r (rows now t).length tA' wA' := by
  obtain ⟨law', c1, c2⟩ := c_fill hT hTC ht rc0 rl0
  have hlen := rows_len hT t ht
  have hnt := hT.1
  obtain ⟨tA', wA', t', e1, e2⟩ := c_walkL (nI (rows now t).length) hI hC c2 (by omega) (rows_dn hT t ht) hr hrl fu_ 0 tA wA t0 (Nat.zero_le _) (by unfold fu_; omega) (fun k h => absurd h (Nat.not_lt_zero k))
  refine ⟨tA', wA', law', t', ?_, e2⟩
  unfold F_X0_walk F_X0_walk_0
  rw [c1, b2_s, lt_e]
  exact e1
end STP
/-- only what was led latest differs -/
def ltd (now now' : Nat → Int32) : Prop := ∀ k, k ≠ 5 → k < 848 → now' k = now k
def PTm (now : Nat → Int32) (ls r : List Nat) (n : Nat) (now' : Nat → Int32) : Prop := ∀ k, k < n → ∀ y x, ldA now (ls.take k) r = some y → ldA now (ls.take (k + 1)) r = some x → now' (848 + k) = nI x.length ∧ now' (896 + k) = nI (ap now (ls.getD k 0) y).2 ∧ arr (fun j => now' (944 + 16 * k + j)) x.reverse
section LED
variable {now : Nat → Int32} {ns nl : Nat} {ls r : List Nat}
theorem m_led2 (k53 : Int32 → Int32 → Int32 → Int32 → (Nat → Int32) → (Nat → Int32) → (Nat → Int32) → Option (Int32 × Int32 × Int32 × Int32 × Int32 × Int32 × (Nat → Int32) × (Nat → Int32) × (Nat → Int32) × (Nat → Int32) × (Nat → Int32))) {k m : Nat} (hk : k < 36) (hm : m ≤ 16) (fi many mk ch : Int32) (line made row word : Nat → Int32) (now0 : Nat → Int32) (fuel : Nat) : ∀ (i : Nat) (now1 : Nat → Int32), i ≤ m → m - i < fuel → (∀ q, (q < 944 + 16 * k ∨ 944 + 16 * k + 16 ≤ q) → now1 q = now0 q) → (∀ q, q < i → now1 (944 + 16 * k + q) = word q) →
    ∃ now2, F_X11_led_103L k53 (nI k) fi many (nI m) mk ch line made row word fuel (nI i) now1 = k53 (nI (k + 1)) (nI m) mk ch made now2 word ∧ (∀ q, (q < 944 + 16 * k ∨ 944 + 16 * k + 16 ≤ q) → now2 q = now0 q) ∧ ∀ q, q < m → now2 (944 + 16 * k + q) = word q := by
  induction fuel with
  | zero => intro i now _ h; exact absurd h (Nat.not_lt_zero _)
  | succ fuel ih =>
    intro i now1 hi hf h1 h2
    have e0 : F_X11_led_103L k53 (nI k) fi many (nI m) mk ch line made row word (fuel + 1) (nI i) now1 = F_X11_led_103 k53 (F_X11_led_103L k53 (nI k) fi many (nI m) mk ch line made row word fuel) (nI k) (nI i) fi many (nI m) mk ch line made now1 row word := rfl
    rw [e0]
    unfold F_X11_led_103
    by_cases c : i = m
    · subst c
      rw [if_pos (nI_le (Nat.le_refl _) (by omega)), lt_e, nI_1]
      exact ⟨now1, rfl, h1, h2⟩
    · have e8 : ((944 : Int32) + (16 : Int32) * nI k) + nI i = nI (944 + 16 * k + i) := by
        rw [show (944 : Int32) = nI 944 from rfl, show (16 : Int32) = nI 16 from rfl, pk_mul, nI_add, nI_add]
      rw [if_neg (nI_ge (by omega) (by omega)), e8, ck_ok rfl (show i < 16 by omega) (by decide), ck_ok rfl (show 944 + 16 * k + i < 1600 by omega) (by decide), lt_e, lt_e, nI_1, nI_clamp (n := i) (by omega), nI_clamp (n := 944 + 16 * k + i) (by omega)]
      refine ih (i + 1) _ (by omega) (by omega) (fun q hq => ?_) (fun q hq => ?_)
      · rw [pk_un (by omega)]; exact h1 q hq
      · by_cases c2 : q = i
        · subst c2; exact pk_us
        · rw [pk_un (by omega)]; exact h2 q (by omega)
theorem m_ledL {g : List Nat} {row line : Nat → Int32} (hI : LI now ns nl) (hls : arr row ls) (h36 : ls.length ≤ 36) (hv : dn nl ls) (hr : dn ns r) (hrl : r.length ≤ 16) (hg : ldA now ls r = some g) (fi : Int32) (fuel : Nat) :
    ∀ (k : Nat) (x : List Nat) (mk ch : Int32) (made now1 word : Nat → Int32), k ≤ ls.length → ls.length - k < fuel → ldA now (ls.take k) r = some x → arr word x.reverse → ltd now now1 → now1 5 = nI ls.length → PTm now ls r k now1 →
    ∃ mk' ch' made' word' now2 now3, F_X11_led_53L fi (nI ls.length) line row fuel (nI k) (nI x.length) mk ch made now1 word = some (nI g.length, fi, nI ls.length, nI g.length, mk', ch', line, made', now3, row, word') ∧ ltd now now2 ∧ now2 5 = nI ls.length ∧ PTm now ls r ls.length now2 ∧ rsl now2 now3 ∧ OCr now3 g := by
  induction fuel with
  | zero => intro k x mk ch made now1 word _ h; exact absurd h (Nat.not_lt_zero _)
  | succ fuel ih =>
    intro k x mk ch made now1 word hk hf hx hw hl h5 hp
    have e0 : F_X11_led_53L fi (nI ls.length) line row (fuel + 1) (nI k) (nI x.length) mk ch made now1 word = F_X11_led_53 (F_X11_led_53L fi (nI ls.length) line row fuel) (nI k) fi (nI ls.length) (nI x.length) mk ch line made now1 row word := rfl
    rw [e0]
    have hxd := ldA_dn hI _ r x (dn_take hv) hr hrl hx
    unfold F_X11_led_53
    by_cases c : k = ls.length
    · rw [if_pos (by rw [c]; exact nI_le (Nat.le_refl _) (by omega))]
      rw [c, List.take_length, hg] at hx
      cases hx
      obtain ⟨now3, t1, t2, t3⟩ := m_tell (now := now1) hxd.2 hw
      rw [t1]
      exact ⟨mk, ch, made, word, now1, now3, rfl, hl, h5, by rw [c] at hp; exact hp, t2, t3⟩
    · have hk2 : k < ls.length := by omega
      have hlk := dn_at hv hk2
      have hagr : ∀ i, 16 ≤ i → i < 240 → now1 i = now i := fun i h1 h2 => hl i (by omega) (by omega)
      have hI1 : LI now1 ns nl := LI_c (fun i h1 h2 => hagr i (by omega) (by omega)) hI
      have hap := ap_c hagr (show ls.getD k 0 < 16 by have := hI.1; omega) x
      obtain ⟨x2, hx2⟩ := stp_some hg (k + 1)
      have hs := stp_s (now := now) (ls := ls) (r := r) k hk2
      rw [hx, hx2] at hs
      have hs' : ld1 now (ls.getD k 0) x = some x2 := hs.symm
      obtain ⟨q1, q2⟩ := ld1_some hs'
      obtain ⟨made', word', g1, g2⟩ := go_ap hI1 hlk hxd.1 hxd.2 hw mk ch made
      rw [hap, ← q1] at g1 g2
      rw [if_pos q2, if_pos q2] at g1
      have e848 : (848 : Int32) + nI k = nI (848 + k) := nI_add 848 k
      have e896 : (896 : Int32) + nI k = nI (896 + k) := nI_add 896 k
      rw [if_neg (nI_ge hk2 (by omega)), ck_ok rfl (show k < 36 by omega) (by decide), nI_clamp (n := k) (by omega), hls k hk2, g1]
      show ∃ mk' ch' made'' word'' now2 now3, ck_ ((848 : Int32) + nI k) 1600 (lt_ (upd now1 (Int32.toNatClampNeg ((848 : Int32) + nI k)) (nI x2.length)) (fun f16 => ck_ ((896 : Int32) + nI k) 1600 (lt_ (upd f16 (Int32.toNatClampNeg ((896 : Int32) + nI k)) (nI (ap now (ls.getD k 0) x).2)) (fun f17 => F_X11_led_103L (F_X11_led_53L fi (nI ls.length) line row fuel) (nI k) fi (nI ls.length) (nI x2.length) (nI x2.length) (nI (ap now (ls.getD k 0) x).2) line made' row word' fu_ 0 f17)))) = some (nI g.length, fi, nI ls.length, nI g.length, mk', ch', line, made'', now3, row, word'') ∧ _
      rw [e848, e896, ck_ok rfl (show 848 + k < 1600 by omega) (by decide), lt_e, ck_ok rfl (show 896 + k < 1600 by omega) (by decide), lt_e, nI_clamp (n := 848 + k) (by omega), nI_clamp (n := 896 + k) (by omega)]
      obtain ⟨now2, d1, d2, d3⟩ := m_led2 (F_X11_led_53L fi (nI ls.length) line row fuel) (k := k) (m := x2.length) (by omega) q2 fi (nI ls.length) (nI x2.length) (nI (ap now (ls.getD k 0) x).2) line made' row word' (upd (upd now1 (848 + k) (nI x2.length)) (896 + k) (nI (ap now (ls.getD k 0) x).2)) fu_ 0 (upd (upd now1 (848 + k) (nI x2.length)) (896 + k) (nI (ap now (ls.getD k 0) x).2)) (Nat.zero_le _) (by unfold fu_; omega) (fun _ _ => rfl) (fun q hq => absurd hq (Nat.not_lt_zero q))
      rw [show (0 : Int32) = nI 0 from rfl, d1]
      refine ih (k + 1) x2 _ _ made' now2 word' (by omega) (by omega) hx2 (g2 q2) (fun i h1 h2 => ?_) ?_ (fun j hj y z hy hz => ?_)
      · rw [d2 i (by omega), pk_un (by omega), pk_un (by omega)]; exact hl i h1 h2
      · rw [d2 5 (by omega), pk_un (by omega), pk_un (by omega)]; exact h5
      · by_cases cj : j = k
        · subst cj
          rw [hx] at hy
          rw [hx2] at hz
          cases hy
          cases hz
          refine ⟨?_, ?_, arr_of (g2 q2) (fun i hi => ?_)⟩
          · rw [d2 _ (by omega), pk_un (by omega), pk_us]
          · rw [d2 _ (by omega), pk_us]
          · rw [List.length_reverse] at hi
            exact d3 i hi
        · obtain ⟨p1, p2, p3⟩ := hp j (by omega) y z hy hz
          have hzl := ldA_dn hI _ r z (dn_take hv) hr hrl hz
          refine ⟨?_, ?_, arr_of p3 (fun i hi => ?_)⟩
          · rw [d2 _ (by omega), pk_un (by omega), pk_un (by omega)]; exact p1
          · rw [d2 _ (by omega), pk_un (by omega), pk_un (by omega)]; exact p2
          · rw [List.length_reverse] at hi
            show now2 (944 + 16 * j + i) = now1 (944 + 16 * j + i)
            rw [d2 _ (by omega), pk_un (by omega), pk_un (by omega)]
end LED
set_option maxHeartbeats 1000000 in
theorem sim_led : Sim_led Rel := by
  intro wc ak fi kwd kou kga klc klt klw kLc kLf kLh kLi kLk kLK kLN kLY kMc kMf kSc kSr kSk kSn kSy kTc kTo kTO kTp wd ou ga lc lt lw Lc Lf Lh Li Lk LK LN LY Mc Mf Sc Sr Sk Sn Sy Tc To TO Tp wt f_path_count f_path_touched f_path_word f_row_count f_row_law tch isK wts mfi now mkept mwt m_many m_size m_makes m_changes m_line m_made m_row m_word z0 hR
  obtain ⟨hW, hK, hF, hS⟩ := hR
  subst hF
  have hS0 := hS
  obtain ⟨ns, nl, nt, nm, hC, hSn, hL, hT, hM, ⟨r, hw⟩, hO, hLt, hG⟩ := hS
  obtain ⟨n0, n1, n2, n3, rfl, rfl, rfl, rfl, bb0, bb1, bb2, bb3⟩ := hC
  rcases ix_c z0 (n := nt) (by omega) with h | ⟨t, ht, rfl⟩
  · iterate 22 apply Exists.intro
    refine ⟨?e1, ?e2, hW, hK, ?e5, ?e3⟩
    case e1 => unfold F_X10_led F_X10_led_0; rw [has7, has_no h]; rfl
    case e2 => unfold F_X11_led F_X11_led_0; rw [is2_no n2 (by omega) h]; rfl
    case e5 => rfl
    case e3 => exact hS0
  · obtain ⟨r1, r2, r3, r4, r5⟩ := hw
    have hw : WDr now ns wd r := ⟨r1, r2, r3, r4, r5⟩
    have hlen := rows_len hT.1 t ht
    have hv := rows_dn hT.1 t ht
    obtain ⟨tA, wA, rowc, tc, w1, w2⟩ := c_walk hL.1 hL.2.1 hT.1 hT.2 ht r1 (show r.length ≤ 16 by omega) f_path_count f_path_touched f_path_word f_row_count f_row_law tch
    rw [← r3] at w1
    obtain ⟨line', row', d1, d2⟩ := m_findLaws hT.1 ht m_many m_line m_row
    obtain ⟨wA1, t1, t2⟩ := m_takeWord (show r.length ≤ 16 by omega) r4 r5 m_size m_word
    obtain ⟨sz, mk, ch, made', word', g1, g2⟩ := m_goAll hL.1 d2 (by omega) hv m_makes m_changes m_made wA1 r1 (show r.length ≤ 16 by omega) t2
    cases hg : ldA now (rows now t) r with
    | none =>
      rw [hg] at w1 g1
      iterate 22 apply Exists.intro
      refine ⟨?e1, ?e2, hW, hK, ?e5, ?e3⟩
      case e1 => unfold F_X10_led F_X10_led_0; rw [has7, has_yes (by omega) ht, b1_s, if_neg (by decide), w1]; rfl
      case e2 => unfold F_X11_led F_X11_led_0; rw [is2_yes n2 (by omega) ht, b1_s, if_neg (by decide), d1]; exact (show bn2_ (F_X11_takeWord m_size now m_word) _ = _ by rw [t1]; exact (show bn6_ (F_X11_goAll (nI (rows now t).length) (nI r.length) m_makes m_changes m_made now row' wA1) _ = _ by rw [g1]; rfl))
      case e5 => rfl
      case e3 => exact hS0
    | some g =>
      rw [hg] at w1 g1
      have hgd := ldA_dn hL.1 _ r g hv r1 (by omega) hg
      have hgg := dn_dg hgd.1 bb0
      obtain ⟨wA2, t3, t4⟩ := m_takeWord (show r.length ≤ 16 by omega) r4 r5 sz word'
      obtain ⟨mk', ch', made2, word2, now2, now3, l1, l2, l3, l4, l5, l6⟩ := m_ledL (line := line') hL.1 d2 (by omega) hv r1 (show r.length ≤ 16 by omega) hg fi fu_ 0 r mk ch made' (upd now 5 (nI (rows now t).length)) wA2 (Nat.zero_le _) (by unfold fu_; omega) rfl t4 (fun k h1 h2 => pk_un h1) pk_us (fun k h => absurd h (Nat.not_lt_zero k))
      have hn : ∀ i, i ≠ 5 ∧ i ≠ 7 ∧ (i < 816) → now3 i = now i := fun i hi => by rw [l5 i hi.2.1 (by omega), l2 i hi.1 (by omega)]
      have hlt : LT now3 (nI (rows now t).length) (va_cpy tA lt 0 0 36) (va_cpy wA lw 0 0 36) := by
        refine ⟨(rows now t).length, by omega, rfl, by rw [l5 5 (by omega) (by omega)]; exact l3, fun i hi => ?_⟩
        obtain ⟨y, hy⟩ := stp_some hg i
        obtain ⟨x, hx⟩ := stp_some hg (i + 1)
        obtain ⟨p1, p2⟩ := w2 i hi y x hy hx
        obtain ⟨q1, q2, q3⟩ := l4 i hi y x hy hx
        have hxd := ldA_dn hL.1 _ r x (dn_take hv) r1 (by omega) hx
        rw [cpy0 (show i < 36 by omega), cpy0 (show i < 36 by omega), p1, p2, l5 (896 + i) (by omega) (by omega), q2]
        refine ⟨rfl, x, dn_dg hxd.1 bb0, hxd.2, rfl, by rw [l5 (848 + i) (by omega) (by omega)]; exact q1, arr_of q3 (fun j hj => ?_)⟩
        exact l5 _ (by omega) (by omega)
      iterate 22 apply Exists.intro
      refine ⟨?e1, ?e2, hW, hK, ?e5, ns, nl, nt, nm, ⟨(hn 0 (by omega)).trans n0, (hn 1 (by omega)).trans n1, (hn 2 (by omega)).trans n2, (hn 3 (by omega)).trans n3, rfl, rfl, rfl, rfl, bb0, bb1, bb2, bb3⟩, SN_c bb0 (fun i h4 h5 => hn i (by omega)) hSn, LL_c (fun i h4 h5 => hn i (by omega)) hL, TT_c (fun i h4 h5 => hn i (by omega)) hT, MN_c bb3 (fun i h4 h5 => hn i (by omega)) hM, ⟨r, WDr_c (hn 4 (by omega)) (fun i h4 h5 => hn i (by omega)) hw⟩, ⟨g, hgg, hgd.2, rfl, l6⟩, hlt, GP_c (hn 6 (by omega)) hG⟩
      case e1 =>
        have cpf : F_X3_copyFrom (nI (rows now t).length) tA wA lc lt lw = some (nI (rows now t).length, va_cpy tA lt 0 0 36, va_cpy wA lw 0 0 36) := by
          unfold F_X3_copyFrom F_X3_copyFrom_0
          rw [lt_e, cp36, lt_e, cp36, lt_e, show (0 : Int32).toNatClampNeg = 0 by decide, show (36 : Int32).toNatClampNeg = 36 by decide]
        have shf : F_X10_shown (wl g) ou = some (nI g.length, wl g) := by
          unfold F_X10_shown F_X10_shown_0
          rw [lt_e, w_size hgg hgd.2]; rfl
        unfold F_X10_led F_X10_led_0
        rw [has7, has_yes (by omega) ht, b1_s, if_neg (by decide), w1]
        exact (show (if wl g = 0 then _ else _) = _ by rw [if_neg (wl_ne0 hgg (by omega)), cpf]; exact (show bn2_ (F_X10_shown (wl g) ou) _ = _ by rw [shf]; rfl))
      case e2 =>
        unfold F_X11_led F_X11_led_0
        rw [is2_yes n2 (by omega) ht, b1_s, if_neg (by decide), d1]
        exact (show bn2_ (F_X11_takeWord m_size now m_word) _ = _ by
          rw [t1]
          exact (show bn6_ (F_X11_goAll (nI (rows now t).length) (nI r.length) m_makes m_changes m_made now row' wA1) _ = _ by
            rw [g1]
            exact (show bn2_ (F_X11_takeWord sz now word') _ = _ by
              rw [t3]
              exact l1)))
      case e5 => rfl
