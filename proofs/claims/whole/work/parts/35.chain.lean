section CHN
variable {now : Nat → Int32} {nt nl : Nat}
theorem chn_fuel (hI : TI now nt nl) : ∀ (t : Nat), t < nt → ∀ f, t + 1 ≤ f → chn now f t = ch now t := by
  intro t
  induction t using Nat.strongRecOn with
  | ind t ih =>
    intro ht f hf
    obtain ⟨f, rfl⟩ : ∃ g, f = g + 1 := ⟨f - 1, by omega⟩
    unfold ch
    show t :: _ = t :: _
    congr 1
    rcases (hI.2 t ht).1 with h | ⟨p, hp, h⟩
    · rw [if_pos (by rw [h]; decide), if_pos (by rw [h]; decide)]
    · have hnt := hI.1
      rw [if_neg (by rw [h]; exact nI_pos (by omega)), if_neg (by rw [h]; exact nI_pos (by omega)), gn_of h (by omega), ih p hp (by omega) f (by omega), ih p hp (by omega) t (by omega)]
theorem ch_top (hI : TI now nt nl) {t : Nat} (ht : t < nt) (h : now (256 + t) = -1) : ch now t = [t] := by
  unfold ch
  show t :: _ = _
  rw [if_pos (by rw [h]; decide)]
theorem ch_up (hI : TI now nt nl) {t p : Nat} (ht : t < nt) (hp : p < t) (h : now (256 + t) = nI p) : ch now t = t :: ch now p := by
  have hnt := hI.1
  unfold ch
  show t :: _ = _
  rw [if_neg (by rw [h]; exact nI_pos (by omega)), gn_of h (by omega), chn_fuel hI p (by omega) t (by omega)]
  rfl
theorem ch_le (hI : TI now nt nl) : ∀ (t : Nat), t < nt → ∀ x ∈ ch now t, x ≤ t := by
  intro t
  induction t using Nat.strongRecOn with
  | ind t ih =>
    intro ht x hx
    rcases (hI.2 t ht).1 with h | ⟨p, hp, h⟩
    · rw [ch_top hI ht h] at hx
      rw [List.mem_singleton.mp hx]
      exact Nat.le_refl _
    · rw [ch_up hI ht hp h] at hx
      rcases List.mem_cons.mp hx with rfl | hx
      · exact Nat.le_refl _
      · have := ih p hp (by omega) x hx
        omega
theorem ch_len (hI : TI now nt nl) : ∀ (t : Nat), t < nt → (ch now t).length ≤ t + 1 := by
  intro t
  induction t using Nat.strongRecOn with
  | ind t ih =>
    intro ht
    rcases (hI.2 t ht).1 with h | ⟨p, hp, h⟩
    · rw [ch_top hI ht h]; simp
    · rw [ch_up hI ht hp h, List.length_cons]
      have := ih p hp (by omega)
      omega
theorem rows_top (hI : TI now nt nl) {t : Nat} (ht : t < nt) (h : now (256 + t) = -1) : rows now t = ow now t := by
  unfold rows
  rw [ch_top hI ht h]
  simp
theorem rows_up (hI : TI now nt nl) {t p : Nat} (ht : t < nt) (hp : p < t) (h : now (256 + t) = nI p) : rows now t = rows now p ++ ow now t := by
  unfold rows
  rw [ch_up hI ht hp h]
  simp
theorem rows_len (hI : TI now nt nl) : ∀ (t : Nat), t < nt → (rows now t).length ≤ 6 * (t + 1) := by
  intro t
  induction t using Nat.strongRecOn with
  | ind t ih =>
    intro ht
    have h6 := ow_len hI ht
    rcases (hI.2 t ht).1 with h | ⟨p, hp, h⟩
    · rw [rows_top hI ht h]; omega
    · rw [rows_up hI ht hp h, List.length_append]
      have := ih p hp (by omega)
      omega
theorem ow_dn (hI : TI now nt nl) {t : Nat} (ht : t < nt) : dn nl (ow now t) := by
  intro x hx
  obtain ⟨k, hk⟩ := List.getElem?_of_mem hx
  have hl := (List.getElem?_eq_some_iff.mp hk).1
  have := (ow_at hI ht hl).2
  rw [List.getD_eq_getElem?_getD, hk] at this
  exact this
theorem rows_dn (hI : TI now nt nl) : ∀ (t : Nat), t < nt → dn nl (rows now t) := by
  intro t
  induction t using Nat.strongRecOn with
  | ind t ih =>
    intro ht
    rcases (hI.2 t ht).1 with h | ⟨p, hp, h⟩
    · rw [rows_top hI ht h]; exact ow_dn hI ht
    · rw [rows_up hI ht hp h]
      intro x hx
      rcases List.mem_append.mp hx with hx | hx
      · exact ih p hp (by omega) x hx
      · exact ow_dn hI ht x hx
end CHN
