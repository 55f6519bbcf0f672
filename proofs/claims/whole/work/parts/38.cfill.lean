section CF
variable {now : Nat → Int32} {nt nl : Nat}
def fl (now : Nat → Int32) (t j : Nat) : List Nat := (List.range j).filter (fun x => decide (x ∈ ch now t))
theorem fl_succ (t j : Nat) : fl now t (j + 1) = fl now t j ++ (if j ∈ ch now t then [j] else []) := by
  unfold fl
  rw [List.range_succ, List.filter_append]
  congr 1
  by_cases c : j ∈ ch now t
  · simp [c]
  · simp [c]
theorem fl_ch (hI : TI now nt nl) : ∀ (t : Nat), t < nt → ∀ j, t < j → fl now t j = (ch now t).reverse := by
  intro t
  induction t using Nat.strongRecOn with
  | ind t ih =>
    intro ht
    have base : fl now t (t + 1) = (ch now t).reverse := by
      rw [fl_succ]
      rcases (hI.2 t ht).1 with h | ⟨p, hp, h⟩
      · have hct := ch_top hI ht h
        have e : fl now t t = [] := by
          unfold fl
          rw [hct, List.filter_eq_nil_iff]
          intro x hx
          have := List.mem_range.mp hx
          simp
          omega
        rw [e, hct]
        simp
      · have hct := ch_up hI ht hp h
        have e : fl now t t = fl now p t := by
          unfold fl
          apply List.filter_congr
          intro x hx
          have := List.mem_range.mp hx
          rw [hct]
          have hne : x ≠ t := by omega
          simp [hne]
        rw [e, ih p hp (by omega) t hp, hct, if_pos List.mem_cons_self]
        simp
    intro j hj
    induction j with
    | zero => omega
    | succ j ihj =>
      by_cases c : t = j
      · subst c; exact base
      · rw [fl_succ, ihj (by omega), if_neg (fun hm => by have := ch_le hI t ht j hm; omega), List.append_nil]
end CF
