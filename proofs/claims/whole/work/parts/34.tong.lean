/-! tongues: the chain of a tongue and its parents, own laws, all laws -/
def TI (now : Nat → Int32) (nt nl : Nat) : Prop := nt ≤ 6 ∧ ∀ t, t < nt → (now (256 + t) = -1 ∨ ∃ p, p < t ∧ now (256 + t) = nI p) ∧ ∃ c, c ≤ 6 ∧ now (264 + t) = nI c ∧ ∀ k, k < c → ∃ a, a < nl ∧ a < 16 ∧ now (272 + 6 * t + k) = nI a
def ow (now : Nat → Int32) (t : Nat) : List Nat := (List.range (gn now (264 + t))).map (fun k => gn now (272 + 6 * t + k))
def chn (now : Nat → Int32) : Nat → Nat → List Nat
  | 0, _ => []
  | f + 1, t => t :: (if now (256 + t) < 0 then [] else chn now f (gn now (256 + t)))
/-- the chain of tongue t, from it upward -/
def ch (now : Nat → Int32) (t : Nat) : List Nat := chn now (t + 1) t
def rows (now : Nat → Int32) (t : Nat) : List Nat := (ch now t).reverse.flatMap (ow now)
section TG
variable {now : Nat → Int32} {nt nl : Nat}
theorem ow_len (hI : TI now nt nl) {t : Nat} (ht : t < nt) : (ow now t).length ≤ 6 := by
  obtain ⟨-, c, h1, h2, -⟩ := hI.2 t ht
  unfold ow
  rw [List.length_map, List.length_range, gn_of h2 (by omega)]
  exact h1
theorem ow_at (hI : TI now nt nl) {t k : Nat} (ht : t < nt) (hk : k < (ow now t).length) : now (272 + 6 * t + k) = nI ((ow now t).getD k 0) ∧ (ow now t).getD k 0 < nl := by
  obtain ⟨-, c, h1, h2, h3⟩ := hI.2 t ht
  unfold ow at hk ⊢
  rw [List.length_map, List.length_range] at hk
  have hc := gn_of h2 (by omega)
  rw [hc] at hk ⊢
  obtain ⟨a, a1, a16, a2⟩ := h3 k hk
  have hg : gn now (272 + 6 * t + k) = (gn now (272 + 6 * t + k)) := rfl
  rw [List.getD_eq_getElem?_getD, List.getElem?_map, List.getElem?_range hk]
  show now (272 + 6 * t + k) = nI (gn now (272 + 6 * t + k)) ∧ gn now (272 + 6 * t + k) < nl
  unfold gn
  rw [a2]
  rw [nI_clamp (by omega)]
  exact ⟨rfl, a1⟩
end TG
