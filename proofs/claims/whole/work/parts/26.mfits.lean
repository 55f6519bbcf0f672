/-! the reference: which sounds fit a set -/
theorem zb_ok {β : Type} {y : Int32} {X : Option β} (h : y = 0 ∨ y = 1) : zb_ y X = X := by
  unfold zb_
  rw [if_pos h]
theorem b2_01 (b : Bool) : b2 b = 0 ∨ b2 b = 1 := by cases b <;> decide
def sc (q : Nat) : Int32 := if q = 8 then -1 else nI q
theorem sc_8 : sc 8 = -1 := rfl
theorem sc_s {q : Nat} (h : q < 8) : sc q = nI q := by unfold sc; rw [if_neg (by omega)]
def isofb (own kind : Int32) : Bool := decide (kind = 0) || (decide (own = kind) || ((decide (kind = 1) && decide (own = 2)) || (decide (kind = 3) && decide (own = 4))))
theorem m_isOf {now : Nat → Int32} {q : Nat} (hq : q < 8) (k : Int32) : F_X11_isOf (nI q) k now = some (b2 (isofb (now (16 + q)) k)) := by
  unfold F_X11_isOf F_X11_isOf_0
  have e : (16 : Int32) + nI q = nI (16 + q) := nI_add 16 q
  rw [e, ck_ok rfl (show 16 + q < 1600 by omega) (by decide), lt_e, nI_clamp (by omega)]
  generalize now (16 + q) = own
  unfold F_X11_isOf_39 F_X11_isOf_29 isofb
  by_cases c0 : k = 0
  · rw [if_pos c0]; simp [c0, b2]
  · rw [if_neg c0]
    by_cases c1 : own = k
    · rw [if_pos c1]; simp [c1, b2]
    · rw [if_neg c1]
      by_cases c2 : k = 1
      · subst c2
        rw [if_pos rfl]
        by_cases c3 : own = 2
        · rw [if_pos c3]; simp [c3, b2]
        · rw [if_neg c3, if_neg (by decide)]; simp [c1, c3, b2]
      · rw [if_neg c2]
        by_cases c3 : k = 3
        · subst c3
          rw [if_pos rfl]
          by_cases c4 : own = 4
          · rw [if_pos c4]; simp [c4, b2, F_X11_isOf_39]
          · rw [if_neg c4]; simp [c1, c4, b2]
        · rw [if_neg c3]; simp [c0, c1, c2, c3, b2]
def fsb (now : Nat → Int32) (l w q : Nat) : Bool :=
  if 0 ≤ now (96 + 9 * l + 3 * w) then (decide (q < 8) && (isofb (now (16 + q)) (now (96 + 9 * l + 3 * w)) && (decide (now (24 + q) &&& now (96 + 9 * l + 3 * w + 1) = now (96 + 9 * l + 3 * w + 1)) && decide (now (32 + q) &&& now (96 + 9 * l + 3 * w + 2) = now (96 + 9 * l + 3 * w + 2)))))
  else (decide (now (96 + 9 * l + 3 * w) = -2) || decide (q = 8))
theorem sc_neg {q : Nat} (hq : q ≤ 8) : sc q < 0 ↔ q = 8 := by
  by_cases c : q = 8
  · subst c; decide
  · rw [sc_s (by omega)]
    exact ⟨fun h => absurd h (nI_pos (by omega)), fun h => absurd h c⟩
theorem sc_ge {q : Nat} (hq : q ≤ 8) : 0 ≤ sc q ↔ q < 8 := by
  by_cases c : q = 8
  · subst c; decide
  · rw [sc_s (by omega)]
    exact ⟨fun _ => by omega, fun _ => nI_pos' (by omega)⟩
theorem m_fitsSet {now : Nat → Int32} {l w q : Nat} (hl : l < 16) (hw : w < 3) (hq : q ≤ 8) : F_X11_fitsSet (nI l) (nI w) (sc q) now = some (b2 (fsb now l w q)) := by
  unfold F_X11_fitsSet F_X11_fitsSet_0
  have e : ((96 : Int32) + (9 : Int32) * nI l) + (3 : Int32) * nI w = nI (96 + 9 * l + 3 * w) := by
    rw [show (96 : Int32) = nI 96 from rfl, show (9 : Int32) = nI 9 from rfl, show (3 : Int32) = nI 3 from rfl, pk_mul, pk_mul, nI_add, nI_add]
  rw [e, lt_e, ck_ok rfl (show 96 + 9 * l + 3 * w < 1600 by omega) (by decide), lt_e, nI_clamp (n := 96 + 9 * l + 3 * w) (by omega)]
  unfold fsb F_X11_fitsSet_38
  generalize ha : 96 + 9 * l + 3 * w = a
  have ha2 : a < 400 := by omega
  by_cases c0 : 0 ≤ now a
  · rw [if_pos c0, if_pos c0]
    by_cases c8 : q = 8
    · subst c8
      rw [if_pos (by decide)]
      simp [b2]
    · have hq8 : q < 8 := by omega
      rw [if_neg (fun h => c8 ((sc_neg hq).mp h)), sc_s hq8, m_isOf hq8, b1_s]
      have e24 : (24 : Int32) + nI q = nI (24 + q) := nI_add 24 q
      have e32 : (32 : Int32) + nI q = nI (32 + q) := nI_add 32 q
      have ea1 : nI a + 1 = nI (a + 1) := nI_1 a
      have ea2 : nI a + 2 = nI (a + 2) := nI_add a 2
      cases c1 : isofb (now (16 + q)) (now a) with
      | false => rw [if_pos (by decide)]; simp [b2]
      | true =>
        rw [if_neg (by decide), e24, e32, ea1, ea2, ck_ok rfl (show 24 + q < 1600 by omega) (by decide), ck_ok rfl (show a + 1 < 1600 by omega) (by decide), ck_ok rfl (show a + 1 < 1600 by omega) (by decide), nI_clamp (n := 24 + q) (by omega), nI_clamp (n := a + 1) (by omega)]
        by_cases c2 : now (24 + q) &&& now (a + 1) = now (a + 1)
        · rw [if_pos c2, ck_ok rfl (show 32 + q < 1600 by omega) (by decide), ck_ok rfl (show a + 2 < 1600 by omega) (by decide), ck_ok rfl (show a + 2 < 1600 by omega) (by decide), nI_clamp (n := 32 + q) (by omega), nI_clamp (n := a + 2) (by omega)]
          by_cases c3 : now (32 + q) &&& now (a + 2) = now (a + 2)
          · rw [if_pos c3]; simp [c2, c3, hq8, b2]
          · rw [if_neg c3]; simp [c3, b2]
        · rw [if_neg c2]; simp [c2, b2]
  · rw [if_neg c0, if_neg c0]
    by_cases c2 : now a = -2
    · rw [if_pos c2]; simp [c2, b2]
    · rw [if_neg c2]
      by_cases c8 : q = 8
      · subst c8
        rw [if_neg (by decide)]
        simp [b2]
      · rw [if_pos ((sc_ge hq).mpr (by omega))]
        simp [c2, c8, b2]
theorem m_fits {now : Nat → Int32} {l a s b : Nat} (hl : l < 16) (ha : a ≤ 8) (hs : s ≤ 8) (hb : b ≤ 8) : F_X11_fits (nI l) (sc a) (sc s) (sc b) now = some (b2 (fsb now l 0 s && (fsb now l 1 a && fsb now l 2 b))) := by
  unfold F_X11_fits F_X11_fits_0
  rw [show (0 : Int32) = nI 0 from rfl, show (1 : Int32) = nI 1 from rfl, show (2 : Int32) = nI 2 from rfl, m_fitsSet hl (by decide) hs, b1_s]
  cases h0 : fsb now l 0 s with
  | false => rw [if_pos (by decide)]; rfl
  | true =>
    rw [if_neg (by decide), m_fitsSet hl (by decide) ha, b1_s]
    cases h1 : fsb now l 1 a with
    | false => rw [if_pos (by decide)]; rfl
    | true =>
      rw [if_neg (by decide), m_fitsSet hl (by decide) hb, b1_s]
      cases h2 : fsb now l 2 b with
      | false => rw [if_pos (by decide)]; rfl
      | true => rw [if_neg (by decide)]; rfl
