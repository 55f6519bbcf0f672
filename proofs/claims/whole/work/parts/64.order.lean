/-! order -/
def STt (now : Nat → Int32) (To : Nat → Nat → Int32) (t n : Nat) (v : Nat → Nat) (now' : Nat → Int32) (To' : Nat → Nat → Int32) : Prop :=
  (∀ i, (i < 272 + 6 * t ∨ 272 + 6 * t + n ≤ i) → now' i = now i) ∧ (∀ k, k < n → now' (272 + 6 * t + k) = nI (v k)) ∧ (∀ a, a ≠ t → To' a = To a) ∧ (∀ k, k < n → To' t k = nI (v k))
def BAS (now : Nat → Int32) (To : Nat → Nat → Int32) (t n : Nat) (now' : Nat → Int32) (To' : Nat → Nat → Int32) : Prop := (∀ i, (i < 272 + 6 * t ∨ 272 + 6 * t + n ≤ i) → now' i = now i) ∧ (∀ a, a ≠ t → To' a = To a)
theorem STt_TT {now now' : Nat → Int32} {nl nt t n : Nat} {To To' : Nat → Nat → Int32} {TO Tp : Nat → Int32} {v : Nat → Nat} (hT : TT now nl nt To TO Tp) (ht : t < nt) (hc : now (264 + t) = nI n) (hn : n ≤ 6) (hv : ∀ k, k < n → v k < nl ∧ v k < 16) (h : STt now To t n v now' To') : TT now' nl nt To' TO Tp := by
  obtain ⟨h1, h2, h3, h4⟩ := h
  have hnt := hT.1.1
  have hI' : TI now' nt nl := by
    refine ⟨hnt, fun s hs => ?_⟩
    obtain ⟨a1, c, c1, c2, c3⟩ := hT.1.2 s hs
    rw [h1 (256 + s) (by omega), h1 (264 + s) (by omega)]
    by_cases cs : s = t
    · subst cs
      have hcn : c = n := (nI_eq (by omega) (by omega)).mp (c2.symm.trans hc)
      subst hcn
      exact ⟨a1, c, c1, c2, fun k hk => ⟨v k, (hv k hk).1, (hv k hk).2, h2 k hk⟩⟩
    · exact ⟨a1, c, c1, c2, fun k hk => by rw [h1 (272 + 6 * s + k) (by omega)]; exact c3 k hk⟩
  refine TT_mk hI' (fun s hs => ?_)
  obtain ⟨c, c1, c2, c3, c4, c5, c6⟩ := TT_at hT hs
  rw [h1 (256 + s) (by omega), h1 (264 + s) (by omega)]
  refine ⟨c4, c3.trans c2.symm, fun k hk => ?_⟩
  rw [gn_of ((h1 (264 + s) (by omega)).trans c2) (by omega)] at hk
  by_cases cs : s = t
  · subst cs
    have hcn : c = n := (nI_eq (by omega) (by omega)).mp (c2.symm.trans hc)
    subst hcn
    rw [h4 k hk, h2 k hk]
  · obtain ⟨a, a1, a2, a3, a4⟩ := c6 k hk
    rw [h3 s cs, h1 (272 + 6 * s + k) (by omega), a3, a4]
section OR
variable {t n : Nat} {l p : List Nat}
theorem c_seatL (ht : t < 6) (hn : n ≤ 4) {ord stl : Nat → Int32} (hp : p.length = n) (hpl : ∀ s ∈ p, s < n) (ho : arr ord p) (hs : ∀ j, j < n → stl j = nI (l.getD j 0)) (To : Nat → Nat → Int32) (fuel : Nat) :
    ∀ (k : Nat) (own : Nat → Nat → Int32), k ≤ n → n - k < fuel → (∀ a, a ≠ t → own a = To a) → (∀ j, j < k → own t j = nI (l.getD (p.getD j 0) 0)) → ∃ own', F_X0_seat_3L (nI t) (nI n) ord stl fuel (nI k) own = some own' ∧ (∀ a, a ≠ t → own' a = To a) ∧ ∀ j, j < n → own' t j = nI (l.getD (p.getD j 0) 0) := by
  induction fuel with
  | zero => intro k own _ h; exact absurd h (Nat.not_lt_zero _)
  | succ fuel ih =>
    intro k own hk hf h1 h2
    have e0 : F_X0_seat_3L (nI t) (nI n) ord stl (fuel + 1) (nI k) own = F_X0_seat_3 (F_X0_seat_3L (nI t) (nI n) ord stl fuel) (nI t) (nI n) (nI k) ord stl own := rfl
    rw [e0]
    unfold F_X0_seat_3
    by_cases c : k = n
    · subst c
      rw [if_pos (nI_le (Nat.le_refl _) (by omega))]
      exact ⟨own, rfl, h1, h2⟩
    · have hk2 : k < p.length := by omega
      have hpk := dn_at (n := n) hpl hk2
      rw [if_neg (nI_ge (by omega) (by omega)), ck_ok rfl ht (by decide), ck_ok rfl (show k < 4 by omega) (by decide), nI_clamp (n := k) (by omega), ho k hk2, ck_ok rfl (show p.getD k 0 < 4 by omega) (by decide), ck_ok rfl (show k < 6 by omega) (by decide), lt_e, lt_e, nI_1, nI_clamp (n := t) (by omega), nI_clamp (n := p.getD k 0) (by omega), hs _ hpk]
      refine ih (k + 1) _ (by omega) (by omega) (fun a ha => ?_) (fun j hj => ?_)
      · rw [ur_n ha]; exact h1 a ha
      · rw [ur_s]
        by_cases c2 : j = k
        · subst c2; exact pk_us
        · rw [pk_un c2]; exact h2 j (by omega)
theorem m_putL (ht : t < 6) (hn : n ≤ 4) {ord stl : Nat → Int32} (hp : p.length = n) (hpl : ∀ s ∈ p, s < n) (ho : arr ord p) (hs : ∀ j, j < n → stl j = nI (l.getD j 0)) (now0 : Nat → Int32) (fuel : Nat) :
    ∀ (k : Nat) (now : Nat → Int32), k ≤ n → n - k < fuel → (∀ i, (i < 272 + 6 * t ∨ 272 + 6 * t + n ≤ i) → now i = now0 i) → (∀ j, j < k → now (272 + 6 * t + j) = nI (l.getD (p.getD j 0) 0)) → ∃ now', F_X11_putOwn_3L (nI t) (nI n) ord stl fuel (nI k) now = some now' ∧ (∀ i, (i < 272 + 6 * t ∨ 272 + 6 * t + n ≤ i) → now' i = now0 i) ∧ ∀ j, j < n → now' (272 + 6 * t + j) = nI (l.getD (p.getD j 0) 0) := by
  induction fuel with
  | zero => intro k now _ h; exact absurd h (Nat.not_lt_zero _)
  | succ fuel ih =>
    intro k now hk hf h1 h2
    have e0 : F_X11_putOwn_3L (nI t) (nI n) ord stl (fuel + 1) (nI k) now = F_X11_putOwn_3 (F_X11_putOwn_3L (nI t) (nI n) ord stl fuel) (nI t) (nI n) (nI k) ord now stl := rfl
    rw [e0]
    unfold F_X11_putOwn_3
    by_cases c : k = n
    · subst c
      rw [if_pos (nI_le (Nat.le_refl _) (by omega))]
      exact ⟨now, rfl, h1, h2⟩
    · have hk2 : k < p.length := by omega
      have hpk := dn_at (n := n) hpl hk2
      have e272 : ((272 : Int32) + (6 : Int32) * nI t) + nI k = nI (272 + 6 * t + k) := by
        rw [show (272 : Int32) = nI 272 from rfl, show (6 : Int32) = nI 6 from rfl, pk_mul, nI_add, nI_add]
      rw [if_neg (nI_ge (by omega) (by omega)), ck_ok rfl (show k < 6 by omega) (by decide), nI_clamp (n := k) (by omega), ho k hk2, ck_ok rfl (show p.getD k 0 < 6 by omega) (by decide), e272, ck_ok rfl (show 272 + 6 * t + k < 1600 by omega) (by decide), lt_e, lt_e, nI_1, nI_clamp (n := 272 + 6 * t + k) (by omega), nI_clamp (n := p.getD k 0) (by omega), hs _ hpk]
      refine ih (k + 1) _ (by omega) (by omega) (fun i hi => ?_) (fun j hj => ?_)
      · rw [pk_un (by omega)]; exact h1 i hi
      · by_cases c2 : j = k
        · subst c2; exact pk_us
        · rw [pk_un (by omega)]; exact h2 j (by omega)
theorem seat_put (ht : t < 6) (hn : n ≤ 4) {ord ord2 stl stl2 : Nat → Int32} (hp : p.length = n) (hpl : ∀ s ∈ p, s < n) (ho : arr ord p) (ho2 : arr ord2 p) (hs : ∀ j, j < n → stl j = nI (l.getD j 0)) (hs2 : ∀ j, j < n → stl2 j = nI (l.getD j 0)) {now now1 : Nat → Int32} {To To1 : Nat → Nat → Int32} (hB : BAS now To t n now1 To1) :
    ∃ own' now', F_X0_seat (nI t) (nI n) ord stl To1 = some own' ∧ F_X11_putOwn (nI t) (nI n) ord2 now1 stl2 = some now' ∧ STt now To t n (fun k => l.getD (p.getD k 0) 0) now' own' := by
  obtain ⟨own', c1, c2, c3⟩ := c_seatL ht hn hp hpl ho hs To fu_ 0 To1 (Nat.zero_le _) (by unfold fu_; omega) hB.2 (fun j h => absurd h (Nat.not_lt_zero j))
  obtain ⟨now', d1, d2, d3⟩ := m_putL ht hn hp hpl ho2 hs2 now fu_ 0 now1 (Nat.zero_le _) (by unfold fu_; omega) hB.1 (fun j h => absurd h (Nat.not_lt_zero j))
  exact ⟨own', now', c1, d1, d2, d3, c2, c3⟩
theorem c_noteL (ht : t < 6) (hn : n ≤ 4) {own : Nat → Nat → Int32} (ho : ∀ j, j < n → own t j = nI (l.getD j 0)) (fuel : Nat) : ∀ (k : Nat) (seats stl : Nat → Int32), k ≤ n → n - k < fuel → (∀ j, j < k → stl j = nI (l.getD j 0) ∧ seats j = nI j) → ∃ seats' stl', F_X0_noteStandingLaws_2L (nI t) (nI n) own fuel (nI k) seats stl = some (seats', stl') ∧ ∀ j, j < n → stl' j = nI (l.getD j 0) ∧ seats' j = nI j := by
  induction fuel with
  | zero => intro k seats stl _ h; exact absurd h (Nat.not_lt_zero _)
  | succ fuel ih =>
    intro k seats stl hk hf h1
    have e0 : F_X0_noteStandingLaws_2L (nI t) (nI n) own (fuel + 1) (nI k) seats stl = F_X0_noteStandingLaws_2 (F_X0_noteStandingLaws_2L (nI t) (nI n) own fuel) (nI t) (nI n) (nI k) seats stl own := rfl
    rw [e0]
    unfold F_X0_noteStandingLaws_2
    by_cases c : k = n
    · subst c
      rw [if_pos (nI_le (Nat.le_refl _) (by omega))]
      exact ⟨seats, stl, rfl, h1⟩
    · rw [if_neg (nI_ge (by omega) (by omega)), ck_ok rfl ht (by decide), ck_ok rfl (show k < 6 by omega) (by decide), ck_ok rfl (show k < 4 by omega) (by decide), lt_e, ck_ok rfl (show k < 4 by omega) (by decide), lt_e, lt_e, nI_1, nI_clamp (n := t) (by omega), nI_clamp (n := k) (by omega), ho k (by omega)]
      refine ih (k + 1) _ _ (by omega) (by omega) (fun j hj => ?_)
      by_cases c2 : j = k
      · subst c2; exact ⟨pk_us, pk_us⟩
      · rw [pk_un c2, pk_un c2]; exact h1 j (by omega)
theorem m_noteL (ht : t < 6) (hn : n ≤ 4) {now : Nat → Int32} (hc : now (264 + t) = nI n) (ho : ∀ j, j < n → now (272 + 6 * t + j) = nI (l.getD j 0)) (fuel : Nat) : ∀ (k : Nat) (stl seats : Nat → Int32), k ≤ n → n - k < fuel → (∀ j, j < k → stl j = nI (l.getD j 0) ∧ seats j = nI j) → ∃ stl' seats', F_X11_takeOwn_2L (nI t) now fuel (nI k) stl seats = some (stl', seats') ∧ ∀ j, j < n → stl' j = nI (l.getD j 0) ∧ seats' j = nI j := by
  induction fuel with
  | zero => intro k stl seats _ h; exact absurd h (Nat.not_lt_zero _)
  | succ fuel ih =>
    intro k stl seats hk hf h1
    have e0 : F_X11_takeOwn_2L (nI t) now (fuel + 1) (nI k) stl seats = F_X11_takeOwn_2 (F_X11_takeOwn_2L (nI t) now fuel) (nI t) (nI k) now stl seats := rfl
    have e264 : (264 : Int32) + nI t = nI (264 + t) := nI_add 264 t
    rw [e0]
    unfold F_X11_takeOwn_2
    rw [e264, ck_ok rfl (show 264 + t < 1600 by omega) (by decide), nI_clamp (n := 264 + t) (by omega), hc]
    by_cases c : k = n
    · subst c
      rw [if_pos (nI_le (Nat.le_refl _) (by omega))]
      exact ⟨stl, seats, rfl, h1⟩
    · have e272 : ((272 : Int32) + (6 : Int32) * nI t) + nI k = nI (272 + 6 * t + k) := by
        rw [show (272 : Int32) = nI 272 from rfl, show (6 : Int32) = nI 6 from rfl, pk_mul, nI_add, nI_add]
      rw [if_neg (nI_ge (by omega) (by omega)), e272, ck_ok rfl (show 272 + 6 * t + k < 1600 by omega) (by decide), ck_ok rfl (show k < 6 by omega) (by decide), lt_e, ck_ok rfl (show k < 6 by omega) (by decide), lt_e, lt_e, nI_1, nI_clamp (n := 272 + 6 * t + k) (by omega), nI_clamp (n := k) (by omega), ho k (by omega)]
      refine ih (k + 1) _ _ (by omega) (by omega) (fun j hj => ?_)
      by_cases c2 : j = k
      · subst c2; exact ⟨pk_us, pk_us⟩
      · rw [pk_un c2, pk_un c2]; exact h1 j (by omega)
end OR
theorem cpn {β : Type} {X : Option β} {n : Nat} (h : n ≤ 4) : cp_ (0 : Int32) 0 (nI n) 4 4 X = X := by
  unfold cp_
  rw [nI_clamp (n := n) (by omega), if_neg]
  intro q
  have e : (0 : Int32).toNatClampNeg = 0 := by decide
  rcases q with q | q | q | q | q
  · exact absurd q (by decide)
  · exact absurd q (by decide)
  · exact nI_pos (by omega) q
  · omega
  · omega
theorem b13_s {A1 A2 A3 A4 A5 A6 A7 A8 A9 A10 A11 A12 A13 α : Type} (a1 : A1) (a2 : A2) (a3 : A3) (a4 : A4) (a5 : A5) (a6 : A6) (a7 : A7) (a8 : A8) (a9 : A9) (a10 : A10) (a11 : A11) (a12 : A12) (a13 : A13) (f : A1 → A2 → A3 → A4 → A5 → A6 → A7 → A8 → A9 → A10 → A11 → A12 → A13 → Option α) : bn13_ (some (a1, a2, a3, a4, a5, a6, a7, a8, a9, a10, a11, a12, a13)) f = f a1 a2 a3 a4 a5 a6 a7 a8 a9 a10 a11 a12 a13 := rfl
section OR2
variable {now : Nat → Int32} {ns nl nt nm most t n : Nat} {Lf Lh Li Lk LK LN LY Tp TO : Nat → Int32} {To : Nat → Nat → Int32} {Mf : Nat → Nat → Int64} {l : List Nat}
theorem m_bestL (K : Int32 → Int32 → Int32 → Int32 → Int32 → Int32 → Int32 → (Nat → Int32) → (Nat → Int32) → (Nat → Int64) → (Nat → Int32) → (Nat → Int32) → (Nat → Int32) → (Nat → Int32) → (Nat → Int32) → (Nat → Int32) → (Nat → Int32) → Option (Int32 × Int32 × Int32 × Int32 × Int32 × Int32 × Int32 × (Nat → Int32) × (Nat → Int32) × (Nat → Int64) × (Nat → Int32) × (Nat → Int32) × (Nat → Int32) × (Nat → Int32) × (Nat → Int32) × (Nat → Int32) × (Nat → Int32) × (Nat → Int32))) (hn : n ≤ 4) (x1 x2 x4 fi mn sz mk ch ss : Int32) (isE : Nat → Int32) (led : Nat → Int64) (line made now1 own places row some1 word : Nat → Int32) (fuel : Nat) : ∀ (k : Nat) (bp : Nat → Int32), k ≤ n → n - k < fuel → (∀ j, j < k → bp j = places j) → ∃ bp', F_X11_order_93L K x1 x2 (nI n) x4 fi mn sz mk ch ss isE led line made now1 own places row some1 word fuel (nI k) bp = F_X11_order_119 K x1 x2 (nI n) x4 fi mn sz mk ch ss bp' isE led line made now1 own places row some1 word ∧ ∀ j, j < n → bp' j = places j := by
  induction fuel with
  | zero => intro k bp _ h; exact absurd h (Nat.not_lt_zero _)
  | succ fuel ih =>
    intro k bp hk hf h1
    have e0 : F_X11_order_93L K x1 x2 (nI n) x4 fi mn sz mk ch ss isE led line made now1 own places row some1 word (fuel + 1) (nI k) bp = F_X11_order_93 K (F_X11_order_93L K x1 x2 (nI n) x4 fi mn sz mk ch ss isE led line made now1 own places row some1 word fuel) x1 x2 (nI n) x4 (nI k) fi mn sz mk ch ss bp isE led line made now1 own places row some1 word := rfl
    rw [e0]
    unfold F_X11_order_93
    by_cases c : k = n
    · subst c
      rw [if_pos (nI_le (Nat.le_refl _) (by omega))]
      exact ⟨bp, rfl, h1⟩
    · rw [if_neg (nI_ge (by omega) (by omega)), ck_ok rfl (show k < 6 by omega) (by decide), ck_ok rfl (show k < 6 by omega) (by decide), lt_e, lt_e, nI_1, nI_clamp (n := k) (by omega)]
      refine ih (k + 1) _ (by omega) (by omega) (fun j hj => ?_)
      by_cases c2 : j = k
      · subst c2; exact pk_us
      · rw [pk_un c2]; exact h1 j (by omega)
theorem order_loop (hL : LL now ns nl Lf Lh Li Lk LK LN LY) (hT : TT now nl nt To TO Tp) (hM : MN now ns nt nm Mf) (h8 : nm ≤ 8) (h4 : most ≤ 4) (n0 : now 0 = nI ns) (n2 : now 2 = nI nt) (n3 : now 3 = nI nm) (ht : t < nt) (hc : now (264 + t) = nI n) (hn : n ≤ 4) (hl : l.length = n) (hlv : ∀ k, k < n → l.getD k 0 < nl) {stl own : Nat → Int32} (hs1 : ∀ j, j < n → stl j = nI (l.getD j 0)) (hs2 : ∀ j, j < n → own j = nI (l.getD j 0)) (fi : Int32) (fuel : Nat) :
    ∀ (i bs : Nat) (q : List Nat) (bestS bestP : Nat → Int32) (goals : Nat → Int64) (seats : Nat → Int32) (t1 : Int32) (To1 : Nat → Nat → Int32) (mn sz mk ch ss : Int32) (isE : Nat → Int32) (led : Nat → Int64) (line made now1 places row some1 word : Nat → Int32), i < fc n → fc n - i + 1 < fuel → bs ≤ 9 → (0 < bs → arr bestS q ∧ arr bestP q ∧ q.length = n ∧ ∀ s ∈ q, s < n) → arr seats (Pm n i) → arr places (Pm n i) → BAS now To t n now1 To1 →
    ∃ v bestS2 goals2 seats2 t2 To2 mn2 sz2 mk2 ch2 ss2 bestP2 isE2 led2 line2 made2 now2 places2 row2 some2 word2, F_X0_arrange_25L (nI t) (nI most) (nI n) stl Lf Lh Li Lk (nI nm) Mf (nI ns) (nI nt) TO Tp fuel (xj bs) (nI i) bestS goals seats t1 To1 = some (v, bestS2, goals2, seats2, stl, t2, To2) ∧ F_X11_order_57L (nI t) (nI most) (nI n) fi own fuel (xj bs) 1 mn sz mk ch ss bestP isE led line made now1 places row some1 word = some (v, fi, mn2, sz2, mk2, ch2, ss2, bestP2, isE2, led2, line2, made2, now2, own, places2, row2, some2, word2) ∧ ∃ vv, (∀ k, k < n → vv k < nl) ∧ STt now To t n vv now2 To2 := by
  have hfc := fc_le n
  have hnt := hT.1.1
  have h16 := hL.1.1
  induction fuel with
  | zero => intro i bs q bestS bestP goals seats t1 To1 mn sz mk ch ss isE led line made now1 places row some1 word _ h; exact absurd h (Nat.not_lt_zero _)
  | succ fuel ih =>
    intro i bs q bestS bestP goals seats t1 To1 mn sz mk ch ss isE led line made now1 places row some1 word hi hf hbs hbq hse hpl hB
    have e0 : F_X0_arrange_25L (nI t) (nI most) (nI n) stl Lf Lh Li Lk (nI nm) Mf (nI ns) (nI nt) TO Tp (fuel + 1) (xj bs) (nI i) bestS goals seats t1 To1 = F_X0_arrange_25 (F_X0_arrange_25L (nI t) (nI most) (nI n) stl Lf Lh Li Lk (nI nm) Mf (nI ns) (nI nt) TO Tp fuel) (nI t) (nI most) (nI n) (xj bs) (nI i) bestS goals seats stl t1 Lf Lh Li Lk (nI nm) Mf (nI ns) (nI nt) To1 TO Tp := rfl
    have e1 : F_X11_order_57L (nI t) (nI most) (nI n) fi own (fuel + 1) (xj bs) 1 mn sz mk ch ss bestP isE led line made now1 places row some1 word = F_X11_order_57 (F_X11_order_57L (nI t) (nI most) (nI n) fi own fuel) (nI t) (nI most) (nI n) (xj bs) 1 fi mn sz mk ch ss bestP isE led line made now1 own places row some1 word := rfl
    rw [e0, e1]
    have hpn := Pm_len n (by omega) i (by omega) hi
    have hpv := Pm_lt n (by omega) i (by omega) hi
    have hpk : ∀ k, k < n → (Pm n i).getD k 0 < n := fun k hk => dn_at (n := n) hpv (by omega)
    obtain ⟨To2, now2, s1, s2, s3⟩ := seat_put (show t < 6 by omega) hn hpn hpv hse hpl hs1 hs2 hB
    have hvv : ∀ k, k < n → l.getD ((Pm n i).getD k 0) 0 < nl := fun k hk => hlv _ (hpk k hk)
    have hT2 : TT now2 nl nt To2 TO Tp := STt_TT hT ht hc (by omega) (fun k hk => ⟨hvv k hk, by have := hvv k hk; omega⟩) s3
    have hag : ∀ k, (k < 272 ∨ 308 ≤ k) → now2 k = now k := fun k hk => s3.1 k (by omega)
    have hL2 : LL now2 ns nl Lf Lh Li Lk LK LN LY := LL_c (fun k h1 h2 => hag k (by omega)) hL
    have hM2 : MN now2 ns nt nm Mf := MN_c h8 (fun k h1 h2 => hag k (by omega)) hM
    obtain ⟨goals2, t2, c1⟩ := c_exp hL2.1 hL2.2.1 hT2 hM2 h8 h4 goals t1
    obtain ⟨mn2, sz2, mk2, ch2, ss2, isE2, led2, line2, made2, row2, some2, word2, m1⟩ := m_exp hL2.1 hT2.1 hM2 h8 h4 ((hag 0 (by omega)).trans n0) ((hag 2 (by omega)).trans n2) ((hag 3 (by omega)).trans n3) mn sz mk ch ss isE led line made row some1 word
    have he8 : exN Mf now2 ns nm most ≤ nm := fb_ct_le _ nm
    generalize exN Mf now2 ns nm most = e at c1 m1 he8
    have hB2 : BAS now To t n now2 To2 := ⟨s3.1, s3.2.2.1⟩
    have tail : ∀ (bs' : Nat) (q' : List Nat) (bestS' bestP' : Nat → Int32), 0 < bs' → bs' ≤ 9 → (arr bestS' q' ∧ arr bestP' q' ∧ q'.length = n ∧ ∀ s ∈ q', s < n) → ∃ v bestS2 goals2' seats2 t2' To2' mn2' sz2' mk2' ch2' ss2' bestP2 isE2' led2' line2' made2' now2' places2 row2' some2' word2', F_X0_arrange_74 (F_X0_arrange_25L (nI t) (nI most) (nI n) stl Lf Lh Li Lk (nI nm) Mf (nI ns) (nI nt) TO Tp fuel) (nI t) (nI most) (nI n) (xj bs') (nI i) bestS' goals2 seats stl t2 Lf Lh Li Lk (nI nm) Mf (nI ns) (nI nt) To2 TO Tp = some (v, bestS2, goals2', seats2, stl, t2', To2') ∧ F_X11_order_119 (F_X11_order_57L (nI t) (nI most) (nI n) fi own fuel) (nI t) (nI most) (nI n) (xj bs') fi mn2 sz2 mk2 ch2 ss2 bestP' isE2 led2 line2 made2 now2 own places row2 some2 word2 = some (v, fi, mn2', sz2', mk2', ch2', ss2', bestP2, isE2', led2', line2', made2', now2', own, places2, row2', some2', word2') ∧ ∃ vv, (∀ k, k < n → vv k < nl) ∧ STt now To t n vv now2' To2' := by
      intro bs' q' bestS' bestP' hb0 hb9 hq'
      obtain ⟨g1, g2, g3, g4⟩ := hq'
      have hns := c_nextSeats hn hpn (fun s hs => by have := hpv s hs; omega) hse
      have hno := m_nextOrder hn hpn (fun s hs => by have := hpv s hs; omega) hpl
      unfold F_X0_arrange_74 F_X11_order_119
      by_cases clast : i + 1 < fc n
      · have hnx := Pm_nx n (by omega) i (by omega) clast
        obtain ⟨f1, f2, f3⟩ := hns.1 _ hnx
        obtain ⟨k1, k2, k3⟩ := hno.1 _ hnx
        rw [f2, b2_s, if_neg ne10, lt_e, nI_1, k2, b2_s]
        exact ih (i + 1) bs' q' bestS' bestP' goals2 f1 t2 To2 mn2 sz2 mk2 ch2 ss2 isE2 led2 line2 made2 now2 k1 row2 some2 word2 clast (by omega) hb9 (fun _ => ⟨g1, g2, g3, g4⟩) f3 k3 hB2
      · have hnx := Pm_no n (by omega) i (by omega) hi (by omega)
        obtain ⟨f1, f2⟩ := hns.2 hnx
        obtain ⟨k1, k2⟩ := hno.2 hnx
        obtain ⟨To3, now3, z1, z2, z3⟩ := seat_put (show t < 6 by omega) hn g3 g4 g1 g2 hs1 hs2 hB2
        obtain ⟨fuel, rfl⟩ : ∃ g, fuel = g + 1 := ⟨fuel - 1, by omega⟩
        refine ⟨xj bs', bestS', goals2, f1, t2, To3, mn2, sz2, mk2, ch2, ss2, bestP', isE2, led2, line2, made2, now3, k1, row2, some2, word2, ?_, ?_, _, ?_, z3⟩
        · unfold F_X0_arrange_91
          rw [f2, b2_s, if_pos rfl, z1, b1_s]
        · rw [k2, b2_s]
          show F_X11_order_57 (F_X11_order_57L (nI t) (nI most) (nI n) fi own fuel) (nI t) (nI most) (nI n) (xj bs') 0 fi mn2 sz2 mk2 ch2 ss2 bestP' isE2 led2 line2 made2 now2 own k1 row2 some2 word2 = _
          unfold F_X11_order_57
          rw [if_pos rfl, z2, b1_s]
        · exact fun k hk => hlv _ (dn_at (n := n) g4 (by omega))
    unfold F_X0_arrange_25 F_X11_order_57
    rw [if_neg (show ¬ (24 : Int32) ≤ nI i from nI_ge (a := i) (b := 24) (by omega) (by decide)), s1, b1_s, c1, b3_s, if_neg ne10, s2, b1_s, m1, b13_s]
    by_cases ce : e + 1 ≤ bs
    · have ce' : nI e ≤ xj bs := (le_xj (by omega) (by omega)).mpr ce
      rw [if_pos ce', if_pos ce']
      exact tail bs q bestS bestP (by omega) hbs (hbq (by omega))
    · have ce' : ¬ nI e ≤ xj bs := fun h => ce ((le_xj (by omega) (by omega)).mp h)
      obtain ⟨bp', w1, w2⟩ := m_bestL (F_X11_order_57L (nI t) (nI most) (nI n) fi own fuel) hn (nI t) (nI most) (nI e) fi mn2 sz2 mk2 ch2 ss2 isE2 led2 line2 made2 now2 own places row2 some2 word2 fu_ 0 bestP (Nat.zero_le _) (by unfold fu_; omega) (fun j h => absurd h (Nat.not_lt_zero j))
      rw [if_neg ce', if_neg ce', cpn hn, lt_e, show (0 : Int32).toNatClampNeg = 0 by decide, nI_clamp (n := n) (by omega), show (0 : Int32) = nI 0 from rfl, w1]
      exact tail (e + 1) (Pm n i) _ bp' (by omega) (by omega) ⟨fun j hj => by rw [cpy0 (by omega)]; exact hse j hj, fun j hj => by rw [w2 j (by omega)]; exact hpl j hj, hpn, hpv⟩
end OR2
set_option maxHeartbeats 1000000 in
theorem sim_order : Sim_order Rel := by
  intro wc ak fi kwd kou kga klc klt klw kLc kLf kLh kLi kLk kLK kLN kLY kMc kMf kSc kSr kSk kSn kSy kTc kTo kTO kTp wd ou ga lc lt lw Lc Lf Lh Li Lk LK LN LY Mc Mf Sc Sr Sk Sn Sy Tc To TO Tp wt f_bestSeats f_goals f_seats f_standingLaws tch isK wts mfi now mkept mwt m_many m_size m_makes m_changes m_someSize m_bestPlaces m_isExplained m_ledTo m_line m_made m_own m_places m_row m_some m_word z0 z1 hR
  obtain ⟨hW, hK, hF, hS⟩ := hR
  subst hF
  have hS0 := hS
  obtain ⟨ns, nl, nt, nm, hC, hSn, hL, hT, hM, ⟨r, hw⟩, hO, hLt, hG⟩ := hS
  obtain ⟨n0, n1, n2, n3, rfl, rfl, rfl, rfl, bb0, bb1, bb2, bb3⟩ := hC
  have ear : F_X10_isArranged z1 = F_X11_in z1 0 3 := rfl
  rcases ix_c z0 (n := nt) (by omega) with h | ⟨t, ht, rfl⟩
  · iterate 25 apply Exists.intro
    refine ⟨?e1, ?e2, hW, hK, ?e5, ?e3⟩
    case e1 => unfold F_X10_order F_X10_order_0 F_X10_order_21; rw [has7, has_no h]; rfl
    case e2 => unfold F_X11_order F_X11_order_0 F_X11_order_17; rw [is2_no n2 (by omega) h]; rfl
    case e5 => rfl
    case e3 => exact hS0
  · rcases in_c z1 0 3 with ⟨h1, h2⟩ | ⟨h1, h2, h3⟩
    · iterate 25 apply Exists.intro
      refine ⟨?e1, ?e2, hW, hK, ?e5, ?e3⟩
      case e1 => unfold F_X10_order F_X10_order_0 F_X10_order_21; rw [has7, has_yes (by omega) ht, b1_s, if_neg (by decide), ear, h1]; rfl
      case e2 => unfold F_X11_order F_X11_order_0 F_X11_order_17; rw [is2_yes n2 (by omega) ht, b1_s, if_neg (by decide), h1]; rfl
      case e5 => rfl
      case e3 => exact hS0
    · obtain ⟨most, hmost, rfl⟩ := in_n (b := 3) (m := 3) rfl (by decide) h2 h3
      obtain ⟨n, c1, c2, c3, c4, c5, c6⟩ := TT_at hT ht
      have e264 : (264 : Int32) + nI t = nI (264 + t) := nI_add 264 t
      by_cases cn : n ≤ 4
      · have cn' : nI n ≤ 4 := nI_le (b := 4) cn (by decide)
        have hTo : ∀ j, j < n → To t j = nI ((ow now t).getD j 0) := fun j hj => (hT.2 t ht).2.2 j (by omega)
        have hno : ∀ j, j < n → now (272 + 6 * t + j) = nI ((ow now t).getD j 0) := fun j hj => (ow_at hT.1 ht (by omega)).1
        have hlv : ∀ j, j < n → (ow now t).getD j 0 < nl := fun j hj => (ow_at hT.1 ht (by omega)).2
        obtain ⟨seats', stl', a1, a2⟩ := c_noteL (t := t) (show t < 6 by omega) cn hTo fu_ 0 f_seats f_standingLaws (Nat.zero_le _) (by unfold fu_; omega) (fun j h => absurd h (Nat.not_lt_zero j))
        obtain ⟨own', places', d1, d2⟩ := m_noteL (t := t) (show t < 6 by omega) cn c2 hno fu_ 0 m_own m_places (Nat.zero_le _) (by unfold fu_; omega) (fun j h => absurd h (Nat.not_lt_zero j))
        have hfc := fc_le n
        have hP0 : Pm n 0 = List.range n := rfl
        have hra : ∀ f : Nat → Int32, (∀ j, j < n → f j = nI j) → arr f (Pm n 0) := fun f hf i hi => by
          rw [hP0, List.length_range] at hi
          rw [hP0, hf i hi, List.getD_eq_getElem?_getD, List.getElem?_range hi]
          rfl
        obtain ⟨v, bestS2, goals2, seats2, t2, To2, mn2, sz2, mk2, ch2, ss2, bestP2, isE2, led2, line2, made2, now2, places2, row2, some2, word2, l1, l2, vv, l3, l4⟩ := order_loop (l := ow now t) (stl := stl') (own := own') hL hT hM bb3 (show most ≤ 4 by omega) n0 n2 n3 ht c2 cn c5 hlv (fun j hj => (a2 j hj).1) (fun j hj => (d2 j hj).1) fi fu_ 0 0 [] f_bestSeats m_bestPlaces f_goals seats' tch To m_many m_size m_makes m_changes m_someSize m_isExplained m_ledTo m_line m_made now places' m_row m_some m_word hfc.1 (by unfold fu_; omega) (by omega) (fun h => absurd h (Nat.lt_irrefl 0)) (hra _ (fun j hj => (a2 j hj).2)) (hra _ (fun j hj => (d2 j hj).2)) ⟨fun _ _ => rfl, fun _ _ => rfl⟩
        have hn : ∀ i, (i < 272 ∨ 308 ≤ i) → now2 i = now i := fun i hi => l4.1 i (by omega)
        have hT2 : TT now2 nl nt To2 TO Tp := STt_TT hT ht c2 (by omega) (fun k hk => ⟨l3 k hk, by have := l3 k hk; omega⟩) l4
        iterate 25 apply Exists.intro
        refine ⟨?e1, ?e2, hW, hK, ?e5, ns, nl, nt, nm, ⟨(hn 0 (by omega)).trans n0, (hn 1 (by omega)).trans n1, (hn 2 (by omega)).trans n2, (hn 3 (by omega)).trans n3, rfl, rfl, rfl, rfl, bb0, bb1, bb2, bb3⟩, SN_c bb0 (fun i h4 h5 => hn i (by omega)) hSn, LL_c (fun i h4 h5 => hn i (by omega)) hL, hT2, MN_c bb3 (fun i h4 h5 => hn i (by omega)) hM, ⟨r, WDr_c (hn 4 (by omega)) (fun i h4 h5 => hn i (by omega)) hw⟩, OC_c (hn 7 (by omega)) (fun i h4 h5 => hn i (by omega)) hO, LT_c (hn 5 (by omega)) (fun i h4 h5 => hn i (by omega)) hLt, GP_c (hn 6 (by omega)) hG⟩
        case e1 =>
          unfold F_X10_order F_X10_order_0 F_X0_arrange F_X0_arrange_0 F_X0_noteStandingLaws F_X0_noteStandingLaws_0
          rw [has7, has_yes (by omega) ht, b1_s, if_neg (by decide), ear, h1, b1_s, if_neg (by decide), ck_ok rfl (show t < 6 by omega) (by decide), nI_clamp (n := t) (by omega), c3, if_pos cn', ck_ok rfl (show t < 6 by omega) (by decide), lt_e, show (0 : Int32) = nI 0 from rfl, a1, b2_s]
          exact (show bn7_ (F_X0_arrange_25L (nI t) (nI most) (nI n) stl' Lf Lh Li Lk (nI nm) Mf (nI ns) (nI nt) TO Tp fu_ (xj 0) (nI 0) f_bestSeats f_goals seats' tch To) _ = _ by rw [l1]; rfl)
        case e2 =>
          unfold F_X11_order F_X11_order_0 F_X11_takeOwn F_X11_takeOwn_0
          rw [is2_yes n2 (by omega) ht, b1_s, if_neg (by decide), h1, b1_s, if_neg (by decide), e264, ck_ok rfl (show 264 + t < 1600 by omega) (by decide), lt_e, nI_clamp (n := 264 + t) (by omega), c2, if_pos cn', show (0 : Int32) = nI 0 from rfl, d1, b2_s]
          exact l2
        case e5 => rfl
      · have cn' : ¬ nI n ≤ 4 := nI_ge (a := 4) (b := n) (by omega) (by omega)
        iterate 25 apply Exists.intro
        refine ⟨?e1, ?e2, hW, hK, ?e5, ?e3⟩
        case e1 => unfold F_X10_order F_X10_order_0; rw [has7, has_yes (by omega) ht, b1_s, if_neg (by decide), ear, h1, b1_s, if_neg (by decide), ck_ok rfl (show t < 6 by omega) (by decide), nI_clamp (n := t) (by omega), c3, if_neg cn']; rfl
        case e2 => unfold F_X11_order F_X11_order_0; rw [is2_yes n2 (by omega) ht, b1_s, if_neg (by decide), h1, b1_s, if_neg (by decide), e264, ck_ok rfl (show 264 + t < 1600 by omega) (by decide), lt_e, nI_clamp (n := 264 + t) (by omega), c2, if_neg cn']; rfl
        case e5 => rfl
        case e3 => exact hS0
