/-! the state of the class and that of the reference -/
def CN (now : Nat → Int32) (ns nl nt nm : Nat) (Sc Lc Tc Mc : Int32) : Prop := now 0 = nI ns ∧ now 1 = nI nl ∧ now 2 = nI nt ∧ now 3 = nI nm ∧ Sc = nI ns ∧ Lc = nI nl ∧ Tc = nI nt ∧ Mc = nI nm ∧ ns ≤ 8 ∧ nl ≤ 16 ∧ nt ≤ 6 ∧ nm ≤ 8
def SN (now : Nat → Int32) (ns : Nat) (Sk Sn : Nat → Int32) (Sr : Int32) (Sy : Nat → Int32) : Prop := (∃ b : Nat, b < 2 ^ ns ∧ Sr = nI b) ∧ ∀ s, s < ns → ∃ k y n : Nat, k ≤ 4 ∧ y < 256 ∧ n < 256 ∧ y &&& n = 0 ∧ now (16 + s) = nI k ∧ now (24 + s) = nI y ∧ now (32 + s) = nI n ∧ Sk s = nI k ∧ Sy s = nI y ∧ Sn s = nI n ∧ (F_X5_isRowMissing (nI s) Sr = some 1 ∧ now (40 + s) = 0 ∨ F_X5_isRowMissing (nI s) Sr = some 0 ∧ now (40 + s) = 1)
def LSt (now : Nat → Int32) (nl : Nat) (LK LN LY : Nat → Int32) : Prop := ∀ l, l < nl → ∀ w, w < 3 → LK (3 * l + w) = now (96 + 9 * l + 3 * w) ∧ LY (3 * l + w) = now (96 + 9 * l + 3 * w + 1) ∧ LN (3 * l + w) = now (96 + 9 * l + 3 * w + 2) ∧ (now (96 + 9 * l + 3 * w) = -2 ∨ now (96 + 9 * l + 3 * w) = -1 ∨ 0 ≤ now (96 + 9 * l + 3 * w))
def MN (now : Nat → Int32) (ns nt nm : Nat) (Mf : Nat → Nat → Int64) : Prop := ∀ m, m < nm → ∀ t, t < 6 → (Mf m t = 0 ∧ (t < nt → now (320 + 6 * m + t) = 0)) ∨ (t < nt ∧ ∃ r : List Nat, dn ns r ∧ r.length ≤ 8 ∧ Mf m t = wl r ∧ now (320 + 6 * m + t) = nI (r.length + 1) ∧ arr (fun i => now (384 + 8 * (6 * m + t) + i)) r.reverse)
def WDr (now : Nat → Int32) (ns : Nat) (wd : Int64) (r : List Nat) : Prop := dn ns r ∧ r.length ≤ 8 ∧ wd = wl r ∧ now 4 = nI r.length ∧ arr (fun i => now (800 + i)) r.reverse
def OC (now : Nat → Int32) (ou : Int64) : Prop := ∃ r : List Nat, dg r ∧ r.length ≤ 16 ∧ ou = wl r ∧ OCr now r
def LT (now : Nat → Int32) (lc : Int32) (lt : Nat → Int32) (lw : Nat → Int64) : Prop := ∃ k : Nat, k ≤ 36 ∧ lc = nI k ∧ now 5 = nI k ∧ ∀ i, i < k → lt i = now (896 + i) ∧ ∃ r : List Nat, dg r ∧ r.length ≤ 16 ∧ lw i = wl r ∧ now (848 + i) = nI r.length ∧ arr (fun j => now (944 + 16 * i + j)) r.reverse
def GP (now : Nat → Int32) (ga : Int32) : Prop := ∃ g : Nat, g ≤ 99 ∧ ga = nI g ∧ now 6 = nI g
def LL (now : Nat → Int32) (ns nl : Nat) (Lf Lh Li Lk LK LN LY : Nat → Int32) : Prop := LI now ns nl ∧ LC now ns nl Lf Lh Li Lk ∧ LSt now nl LK LN LY
def TT (now : Nat → Int32) (nl nt : Nat) (To : Nat → Nat → Int32) (TO Tp : Nat → Int32) : Prop := TI now nt nl ∧ TC now nt Tp TO To
def StN (ns nl nt nm : Nat) (wd ou : Int64) (ga lc : Int32) (lt : Nat → Int32) (lw : Nat → Int64) (Lc : Int32) (Lf Lh Li Lk LK LN LY : Nat → Int32) (Mc : Int32) (Mf : Nat → Nat → Int64) (Sc : Int32) (Sk Sn : Nat → Int32) (Sr : Int32) (Sy : Nat → Int32) (Tc : Int32) (To : Nat → Nat → Int32) (TO Tp : Nat → Int32) (now : Nat → Int32) : Prop :=
  CN now ns nl nt nm Sc Lc Tc Mc ∧ SN now ns Sk Sn Sr Sy ∧ LL now ns nl Lf Lh Li Lk LK LN LY ∧ TT now nl nt To TO Tp ∧ MN now ns nt nm Mf ∧ (∃ r, WDr now ns wd r) ∧ OC now ou ∧ LT now lc lt lw ∧ GP now ga
def StR (wd ou : Int64) (ga lc : Int32) (lt : Nat → Int32) (lw : Nat → Int64) (Lc : Int32) (Lf Lh Li Lk LK LN LY : Nat → Int32) (Mc : Int32) (Mf : Nat → Nat → Int64) (Sc : Int32) (Sk Sn : Nat → Int32) (Sr : Int32) (Sy : Nat → Int32) (Tc : Int32) (To : Nat → Nat → Int32) (TO Tp : Nat → Int32) (now : Nat → Int32) : Prop :=
  ∃ ns nl nt nm : Nat, StN ns nl nt nm wd ou ga lc lt lw Lc Lf Lh Li Lk LK LN LY Mc Mf Sc Sk Sn Sr Sy Tc To TO Tp now
def RW (wc wts : Int32) (wt mwt : Nat → Int32) : Prop := wc = wts ∧ wt = mwt ∧ ∃ w : Nat, w ≤ 300 ∧ wts = nI w
def RK (ak isK : Int32) (S : Prop) : Prop := ak = isK ∧ (isK = 0 ∨ isK = 1 ∧ S)
def Rel (wc ak fi : Int32) (kwd kou : Int64) (kga klc : Int32) (klt : Nat → Int32) (klw : Nat → Int64) (kLc : Int32) (kLf kLh kLi kLk kLK kLN kLY : Nat → Int32) (kMc : Int32) (kMf : Nat → Nat → Int64) (kSc kSr : Int32) (kSk kSn kSy : Nat → Int32) (kTc : Int32) (kTo : Nat → Nat → Int32) (kTO kTp : Nat → Int32)
    (wd ou : Int64) (ga lc : Int32) (lt : Nat → Int32) (lw : Nat → Int64) (Lc : Int32) (Lf Lh Li Lk LK LN LY : Nat → Int32) (Mc : Int32) (Mf : Nat → Nat → Int64) (Sc Sr : Int32) (Sk Sn Sy : Nat → Int32) (Tc : Int32) (To : Nat → Nat → Int32) (TO Tp : Nat → Int32) (wt : Nat → Int32) (isK wts mfi : Int32) (now mkept mwt : Nat → Int32) : Prop :=
  RW wc wts wt mwt ∧ RK ak isK (StR kwd kou kga klc klt klw kLc kLf kLh kLi kLk kLK kLN kLY kMc kMf kSc kSk kSn kSr kSy kTc kTo kTO kTp mkept) ∧ fi = mfi ∧ StR wd ou ga lc lt lw Lc Lf Lh Li Lk LK LN LY Mc Mf Sc Sk Sn Sr Sy Tc To TO Tp now
/-! what each part of the state looks at -/
theorem SN_c {now now' : Nat → Int32} {ns : Nat} {Sk Sn Sy : Nat → Int32} {Sr : Int32} (h8 : ns ≤ 8) (e : ∀ i, 16 ≤ i → i < 48 → now' i = now i) (h : SN now ns Sk Sn Sr Sy) : SN now' ns Sk Sn Sr Sy := by
  refine ⟨h.1, fun s hs => ?_⟩
  rw [e (16 + s) (by omega) (by omega), e (24 + s) (by omega) (by omega), e (32 + s) (by omega) (by omega), e (40 + s) (by omega) (by omega)]
  exact h.2 s hs
theorem LI_c {now now' : Nat → Int32} {ns nl : Nat} (e : ∀ i, 48 ≤ i → i < 96 → now' i = now i) (h : LI now ns nl) : LI now' ns nl := by
  refine ⟨h.1, h.2.1, fun l hl => ?_⟩
  have := h.1
  rw [e (48 + l) (by omega) (by omega), e (64 + l) (by omega) (by omega), e (80 + l) (by omega) (by omega)]
  exact h.2.2 l hl
theorem fsb_c {now now' : Nat → Int32} (e1 : ∀ i, 16 ≤ i → i < 48 → now' i = now i) (e2 : ∀ i, 96 ≤ i → i < 240 → now' i = now i) {l w q : Nat} (hl : l < 16) (hw : w < 3) : fsb now' l w q = fsb now l w q := by
  unfold fsb
  rw [e2 (96 + 9 * l + 3 * w) (by omega) (by omega), e2 (96 + 9 * l + 3 * w + 1) (by omega) (by omega), e2 (96 + 9 * l + 3 * w + 2) (by omega) (by omega)]
  by_cases c : q < 8
  · rw [e1 (16 + q) (by omega) (by omega), e1 (24 + q) (by omega) (by omega), e1 (32 + q) (by omega) (by omega)]
  · simp [c]
theorem LL_c {now now' : Nat → Int32} {ns nl : Nat} {Lf Lh Li Lk LK LN LY : Nat → Int32} (e : ∀ i, 16 ≤ i → i < 240 → now' i = now i) (h : LL now ns nl Lf Lh Li Lk LK LN LY) : LL now' ns nl Lf Lh Li Lk LK LN LY := by
  have h16 := h.1.1
  refine ⟨LI_c (fun i h1 h2 => e i (by omega) (by omega)) h.1, fun l hl => ?_, fun l hl w hw => ?_⟩
  · obtain ⟨a1, a2, a3, a4⟩ := h.2.1 l hl
    rw [e (48 + l) (by omega) (by omega), e (64 + l) (by omega) (by omega), e (80 + l) (by omega) (by omega)]
    refine ⟨a1, a2, a3, fun w hw => ?_⟩
    obtain ⟨b, b1, b2, b3⟩ := a4 w hw
    exact ⟨b, b1, b2, fun q hq => by rw [b3 q hq, fsb_c (fun i h1 h2 => e i (by omega) (by omega)) (fun i h1 h2 => e i (by omega) (by omega)) (by omega) hw]⟩
  · rw [e (96 + 9 * l + 3 * w) (by omega) (by omega), e (96 + 9 * l + 3 * w + 1) (by omega) (by omega), e (96 + 9 * l + 3 * w + 2) (by omega) (by omega)]
    exact h.2.2 l hl w hw
theorem ow_c {now now' : Nat → Int32} {nt nl : Nat} (hI : TI now nt nl) (e : ∀ i, 256 ≤ i → i < 308 → now' i = now i) {t : Nat} (ht : t < nt) : ow now' t = ow now t := by
  have hnt := hI.1
  obtain ⟨-, c, c1, c2, -⟩ := hI.2 t ht
  unfold ow gn
  rw [e (264 + t) (by omega) (by omega), c2, nI_clamp (by omega)]
  apply List.map_congr_left
  intro k hk
  have := List.mem_range.mp hk
  rw [e (272 + 6 * t + k) (by omega) (by omega)]
theorem TT_c {now now' : Nat → Int32} {nt nl : Nat} {To : Nat → Nat → Int32} {TO Tp : Nat → Int32} (e : ∀ i, 256 ≤ i → i < 308 → now' i = now i) (h : TT now nl nt To TO Tp) : TT now' nl nt To TO Tp := by
  have hnt := h.1.1
  refine ⟨⟨h.1.1, fun t ht => ?_⟩, fun t ht => ?_⟩
  · obtain ⟨a1, c, c1, c2, c3⟩ := h.1.2 t ht
    rw [e (256 + t) (by omega) (by omega), e (264 + t) (by omega) (by omega)]
    exact ⟨a1, c, c1, c2, fun k hk => by rw [e (272 + 6 * t + k) (by omega) (by omega)]; exact c3 k hk⟩
  · rw [e (256 + t) (by omega) (by omega), e (264 + t) (by omega) (by omega), ow_c h.1 e ht]
    exact h.2 t ht
theorem MN_c {now now' : Nat → Int32} {ns nt nm : Nat} {Mf : Nat → Nat → Int64} (h8 : nm ≤ 8) (e : ∀ i, 320 ≤ i → i < 768 → now' i = now i) (h : MN now ns nt nm Mf) : MN now' ns nt nm Mf := by
  intro m hm t ht
  rw [e (320 + 6 * m + t) (by omega) (by omega)]
  rcases h m hm t ht with h1 | ⟨h1, r, r1, r2, r3, r4, r5⟩
  · exact Or.inl h1
  · refine Or.inr ⟨h1, r, r1, r2, r3, r4, arr_of r5 (fun i hi => ?_)⟩
    rw [List.length_reverse] at hi
    exact e _ (by omega) (by omega)
theorem WDr_c {now now' : Nat → Int32} {ns : Nat} {wd : Int64} {r : List Nat} (e4 : now' 4 = now 4) (e : ∀ i, 800 ≤ i → i < 816 → now' i = now i) (h : WDr now ns wd r) : WDr now' ns wd r := by
  obtain ⟨r1, r2, r3, r4, r5⟩ := h
  refine ⟨r1, r2, r3, e4.trans r4, arr_of r5 (fun i hi => ?_)⟩
  rw [List.length_reverse] at hi
  exact e _ (by omega) (by omega)
theorem OC_c {now now' : Nat → Int32} {ou : Int64} (e7 : now' 7 = now 7) (e : ∀ i, 816 ≤ i → i < 848 → now' i = now i) (h : OC now ou) : OC now' ou := by
  obtain ⟨r, r1, r2, r3, r4, r5⟩ := h
  refine ⟨r, r1, r2, r3, e7.trans r4, arr_of r5 (fun i hi => ?_)⟩
  rw [List.length_reverse] at hi
  exact e _ (by omega) (by omega)
theorem LT_c {now now' : Nat → Int32} {lc : Int32} {lt : Nat → Int32} {lw : Nat → Int64} (e5 : now' 5 = now 5) (e : ∀ i, 848 ≤ i → i < 1600 → now' i = now i) (h : LT now lc lt lw) : LT now' lc lt lw := by
  obtain ⟨k, k1, k2, k3, k4⟩ := h
  refine ⟨k, k1, k2, e5.trans k3, fun i hi => ?_⟩
  obtain ⟨a1, r, r1, r2, r3, r4, r5⟩ := k4 i hi
  refine ⟨a1.trans (e _ (by omega) (by omega)).symm, r, r1, r2, r3, (e _ (by omega) (by omega)).trans r4, arr_of r5 (fun j hj => ?_)⟩
  rw [List.length_reverse] at hj
  exact e _ (by omega) (by omega)
theorem GP_c {now now' : Nat → Int32} {ga : Int32} (e6 : now' 6 = now 6) (h : GP now ga) : GP now' ga := by
  obtain ⟨g, g1, g2, g3⟩ := h
  exact ⟨g, g1, g2, e6.trans g3⟩
/-! small parts of both -/
theorem in_no {x : Int32} {n : Nat} (hn : n < 2 ^ 31) (h : x < 0 ∨ nI n ≤ x) : F_X11_in x 0 (nI n - 1) = some 0 := by
  unfold F_X11_in F_X11_in_0
  by_cases c : x < 0
  · rw [if_pos c]
  · rw [if_neg c, if_pos]
    have h2 := h.resolve_left c
    cases n with
    | zero =>
      have : ¬ x < 0 := c
      rw [fa_lt]
      rw [fa_lt] at this
      have e0 : (0 : Int32).toInt = 0 := by decide
      have e1 : (nI 0 - 1).toInt = -1 := by decide
      omega
    | succ n =>
      rw [nI_pred, fa_lt, nI_toInt (by omega)]
      rw [fa_le, nI_toInt (by omega)] at h2
      omega
theorem in_yes {j n : Nat} (hn : n < 2 ^ 31) (h : j < n) : F_X11_in (nI j) 0 (nI n - 1) = some 1 := by
  unfold F_X11_in F_X11_in_0
  obtain ⟨m, rfl⟩ : ∃ m, n = m + 1 := ⟨n - 1, by omega⟩
  rw [if_neg (nI_pos (by omega)), nI_pred, if_neg (nI_nlt (by omega) (by omega))]
theorem in_c (x a b : Int32) : (F_X11_in x a b = some 0 ∧ (x < a ∨ b < x)) ∨ (F_X11_in x a b = some 1 ∧ ¬ x < a ∧ ¬ b < x) := by
  unfold F_X11_in F_X11_in_0
  by_cases c : x < a
  · rw [if_pos c]; exact Or.inl ⟨rfl, Or.inl c⟩
  · rw [if_neg c]
    by_cases c2 : b < x
    · rw [if_pos c2]; exact Or.inl ⟨rfl, Or.inr c2⟩
    · rw [if_neg c2]; exact Or.inr ⟨rfl, c, c2⟩
theorem in_n {x b : Int32} {m : Nat} (hb : b = nI m) (hm : m < 2 ^ 31) (h1 : ¬ x < 0) (h2 : ¬ b < x) : ∃ j, j ≤ m ∧ x = nI j := by
  subst hb
  obtain ⟨j, hj, rfl⟩ := nI_of h1
  refine ⟨j, ?_, rfl⟩
  rcases Nat.lt_or_ge m j with c | c
  · exact absurd (nI_lt c (by omega)) h2
  · exact c
theorem ix_c (x : Int32) {n : Nat} (hn : n < 2 ^ 31) : (x < 0 ∨ nI n ≤ x) ∨ ∃ j, j < n ∧ x = nI j := by
  rcases pk_ix x hn with h | h | h
  · exact Or.inl (Or.inl h)
  · exact Or.inl (Or.inr h)
  · exact Or.inr h
theorem has_no {x : Int32} {n : Nat} (h : x < 0 ∨ nI n ≤ x) : F_X5_has x (nI n) = some 0 := by
  unfold F_X5_has F_X5_has_0
  by_cases c : x < 0
  · rw [if_pos c]
  · rw [if_neg c, if_pos (h.resolve_left c)]
theorem has_yes {j n : Nat} (hn : n < 2 ^ 31) (h : j < n) : F_X5_has (nI j) (nI n) = some 1 := by
  unfold F_X5_has F_X5_has_0
  rw [if_neg (nI_pos (by omega)), if_neg (nI_ge h hn)]
theorem has1 (x c : Int32) : F_X1_has x c = F_X5_has x c := rfl
theorem has2 (x c : Int32) : F_X2_has x c = F_X5_has x c := rfl
theorem has3 (x c : Int32) : F_X3_has x c = F_X5_has x c := rfl
theorem has7 (x c : Int32) : F_X7_has x c = F_X5_has x c := rfl
section ISX
variable {now : Nat → Int32} {n : Nat}
theorem is0_no (h0 : now 0 = nI n) (hn : n < 2 ^ 31) {x : Int32} (h : x < 0 ∨ nI n ≤ x) : F_X11_isSound x now = some 0 := by
  unfold F_X11_isSound F_X11_isSound_0
  rw [show ((0 : Int32)).toNatClampNeg = 0 by decide, h0, in_no hn h]; rfl
theorem is0_yes (h0 : now 0 = nI n) (hn : n < 2 ^ 31) {j : Nat} (h : j < n) : F_X11_isSound (nI j) now = some 1 := by
  unfold F_X11_isSound F_X11_isSound_0
  rw [show ((0 : Int32)).toNatClampNeg = 0 by decide, h0, in_yes hn h]; rfl
theorem is1_no (h0 : now 1 = nI n) (hn : n < 2 ^ 31) {x : Int32} (h : x < 0 ∨ nI n ≤ x) : F_X11_isLaw x now = some 0 := by
  unfold F_X11_isLaw F_X11_isLaw_0
  rw [show ((1 : Int32)).toNatClampNeg = 1 by decide, h0, in_no hn h]; rfl
theorem is1_yes (h0 : now 1 = nI n) (hn : n < 2 ^ 31) {j : Nat} (h : j < n) : F_X11_isLaw (nI j) now = some 1 := by
  unfold F_X11_isLaw F_X11_isLaw_0
  rw [show ((1 : Int32)).toNatClampNeg = 1 by decide, h0, in_yes hn h]; rfl
theorem is2_no (h0 : now 2 = nI n) (hn : n < 2 ^ 31) {x : Int32} (h : x < 0 ∨ nI n ≤ x) : F_X11_isTongue x now = some 0 := by
  unfold F_X11_isTongue F_X11_isTongue_0
  rw [show ((2 : Int32)).toNatClampNeg = 2 by decide, h0, in_no hn h]; rfl
theorem is2_yes (h0 : now 2 = nI n) (hn : n < 2 ^ 31) {j : Nat} (h : j < n) : F_X11_isTongue (nI j) now = some 1 := by
  unfold F_X11_isTongue F_X11_isTongue_0
  rw [show ((2 : Int32)).toNatClampNeg = 2 by decide, h0, in_yes hn h]; rfl
theorem is3_no (h0 : now 3 = nI n) (hn : n < 2 ^ 31) {x : Int32} (h : x < 0 ∨ nI n ≤ x) : F_X11_isMeaning x now = some 0 := by
  unfold F_X11_isMeaning F_X11_isMeaning_0
  rw [show ((3 : Int32)).toNatClampNeg = 3 by decide, h0, in_no hn h]; rfl
theorem is3_yes (h0 : now 3 = nI n) (hn : n < 2 ^ 31) {j : Nat} (h : j < n) : F_X11_isMeaning (nI j) now = some 1 := by
  unfold F_X11_isMeaning F_X11_isMeaning_0
  rw [show ((3 : Int32)).toNatClampNeg = 3 by decide, h0, in_yes hn h]; rfl
end ISX
theorem irm {b s : Nat} (hb : b < 2 ^ 31) (hs : s < 32) : F_X5_isRowMissing (nI s) (nI b) = some (if b.testBit s then 1 else 0) := (show F_X5_isRowMissing (nI s) (nI b) = F_X1_isIn (nI b) (nI s) from rfl).trans (is_in hb hs)
