/-! only the sounds that there are matter -/
def dn (n : Nat) (r : List Nat) : Prop := ∀ s ∈ r, s < n
theorem dn_nil {n : Nat} : dn n [] := fun _ h => by cases h
theorem dn_cons {n s : Nat} {r : List Nat} : dn n (s :: r) ↔ s < n ∧ dn n r := ⟨fun h => ⟨h s List.mem_cons_self, fun x hx => h x (List.mem_cons_of_mem _ hx)⟩, fun h x hx => by
  rcases List.mem_cons.mp hx with rfl | hx
  · exact h.1
  · exact h.2 x hx⟩
theorem dn_rev {n : Nat} {r : List Nat} : dn n r.reverse ↔ dn n r := ⟨fun h x hx => h x (List.mem_reverse.mpr hx), fun h x hx => h x (List.mem_reverse.mp hx)⟩
theorem dn_dg {n : Nat} {r : List Nat} (h : dn n r) (hn : n ≤ 8) : dg r := fun s hs => Nat.lt_of_lt_of_le (h s hs) hn
theorem hd8_dn {n : Nat} {r : List Nat} (h : dn n r) : hd8 r < n ∨ hd8 r = 8 := by
  cases r with
  | nil => exact Or.inr rfl
  | cons s r => exact Or.inl (dn_cons.mp h).1
theorem chg_dn {n how into s : Nat} {lft : Bool} {out : List Nat} (hi : how = 1 ∨ into < n) (hs : s < n) (ho : dn n out) : dn n (chg lft how into s out) := by
  unfold chg
  split
  · exact ho
  · rename_i h
    have hi' : into < n := hi.resolve_left h
    split
    · exact dn_cons.mpr ⟨hi', ho⟩
    · split
      · exact dn_cons.mpr ⟨hs, dn_cons.mpr ⟨hi', ho⟩⟩
      · exact dn_cons.mpr ⟨hi', dn_cons.mpr ⟨hs, ho⟩⟩
theorem sw_dn {n : Nat} {T D A : Nat → Bool} {once flow lft : Bool} {how into : Nat} (hi : how = 1 ∨ into < n) : ∀ (rest : List Nat) (before : Nat) (out : List Nat) (t : Nat), dn n rest → dn n out → dn n (sw T D A once flow lft how into rest before out t).1 := by
  intro rest
  induction rest with
  | nil => intro before out t _ ho; exact ho
  | cons s rest ih =>
    intro before out t hr ho
    have hr' := dn_cons.mp hr
    unfold sw
    split
    · exact ih s _ _ hr'.2 (chg_dn hi hr'.1 ho)
    · exact ih s _ _ hr'.2 (dn_cons.mpr ⟨hr'.1, ho⟩)
theorem sw_cong {n : Nat} {T D A T' D' A' : Nat → Bool} {once flow lft : Bool} {how into : Nat} (hT : ∀ q, q < n → T q = T' q) (hD : ∀ q, q < n ∨ q = 8 → D q = D' q) (hA : ∀ q, q < n ∨ q = 8 → A q = A' q) (hi : how = 1 ∨ into < n) :
    ∀ (rest : List Nat) (before : Nat) (out : List Nat) (t : Nat), dn n rest → dn n out → (before < n ∨ before = 8) → sw T D A once flow lft how into rest before out t = sw T' D' A' once flow lft how into rest before out t := by
  intro rest
  induction rest with
  | nil => intro before out t _ _ _; rfl
  | cons s rest ih =>
    intro before out t hr ho hb
    have hr' := dn_cons.mp hr
    have hh : hit T D A once flow s before rest out t = hit T' D' A' once flow s before rest out t := by
      unfold hit
      rw [hT s hr'.1, hA _ (hd8_dn hr'.2)]
      cases flow with
      | true => rw [if_pos rfl, hD _ (hd8_dn ho)]
      | false => rw [if_neg (by decide), hD _ hb]
    unfold sw
    rw [hh, ih s _ _ hr'.2 (dn_cons.mpr ⟨hr'.1, ho⟩) (Or.inl hr'.1)]
    split
    · exact ih s _ _ hr'.2 (chg_dn hi hr'.1 ho) (Or.inl hr'.1)
    · rfl
theorem lwS_dn {n kd how into : Nat} {T Lf Rt : Nat → Bool} {r : List Nat} (hi : how = 1 ∨ into < n) (h : dn n r) : dn n (lwS kd how into T Lf Rt r).1 := by
  unfold lwS
  split
  · exact dn_rev.mpr (sw_dn hi _ _ _ _ h dn_nil)
  · exact sw_dn hi _ _ _ _ (dn_rev.mpr h) dn_nil
theorem lwS_cong {n kd how into : Nat} {T Lf Rt T' Lf' Rt' : Nat → Bool} (hT : ∀ q, q < n → T q = T' q) (hL : ∀ q, q < n ∨ q = 8 → Lf q = Lf' q) (hR : ∀ q, q < n ∨ q = 8 → Rt q = Rt' q) (hi : how = 1 ∨ into < n) {r : List Nat} (h : dn n r) : lwS kd how into T Lf Rt r = lwS kd how into T' Lf' Rt' r := by
  unfold lwS
  rw [sw_cong hT hR hL hi r 8 [] 0 h dn_nil (Or.inr rfl), sw_cong hT hL hR hi r.reverse 8 [] 0 (dn_rev.mpr h) dn_nil (Or.inr rfl)]
/-! laws one behind the other, by the reference's state -/
def gn (now : Nat → Int32) (i : Nat) : Nat := (now i).toNatClampNeg
/-- law l on a word (last sound first) -/
def ap (now : Nat → Int32) (l : Nat) (r : List Nat) : List Nat × Nat := lwS (gn now (48 + l)) (gn now (64 + l)) (gn now (80 + l)) (fsb now l 0) (fsb now l 1) (fsb now l 2) r
def ld1 (now : Nat → Int32) (l : Nat) (r : List Nat) : Option (List Nat) := if (ap now l r).1.length ≤ 16 then some (ap now l r).1 else none
def ldA (now : Nat → Int32) : List Nat → List Nat → Option (List Nat)
  | [], r => some r
  | l :: ls, r => (ld1 now l r).bind (ldA now ls)
theorem ldA_app (now : Nat → Int32) (a b : List Nat) (r : List Nat) : ldA now (a ++ b) r = (ldA now a r).bind (ldA now b) := by
  induction a generalizing r with
  | nil => rfl
  | cons l a ih =>
    rw [List.cons_append]
    show (ld1 now l r).bind (ldA now (a ++ b)) = ((ld1 now l r).bind (ldA now a)).bind (ldA now b)
    cases ld1 now l r with
    | none => rfl
    | some x => exact ih x
/-- the class's number of where a word is led to -/
def wo (o : Option (List Nat)) : Int64 := match o with
  | none => 0
  | some r => wl r
