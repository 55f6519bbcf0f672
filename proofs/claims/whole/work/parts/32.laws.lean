/-- the reference's laws are in order: ns sounds, nl laws -/
def LI (now : Nat → Int32) (ns nl : Nat) : Prop := nl ≤ 16 ∧ ns ≤ 8 ∧ ∀ l, l < nl → ∃ kd how into : Nat, now (48 + l) = nI kd ∧ kd ≤ 3 ∧ now (64 + l) = nI how ∧ how ≤ 2 ∧ now (80 + l) = nI into ∧ into < 8 ∧ (how = 1 ∨ into < ns)
/-- the class's laws say the same; what fits as bits -/
def LC (now : Nat → Int32) (ns nl : Nat) (vf vh vi vk : Nat → Int32) : Prop := ∀ l, l < nl → vk l = now (48 + l) ∧ vh l = now (64 + l) ∧ vi l = now (80 + l) ∧ ∀ w, w < 3 → ∃ b, b < 512 ∧ vf (3 * l + w) = nI b ∧ ∀ q, q < ns ∨ q = 8 → b.testBit q = fsb now l w q
theorem gn_of {now : Nat → Int32} {i n : Nat} (h : now i = nI n) (hn : n < 2 ^ 31) : gn now i = n := by
  unfold gn
  rw [h, nI_clamp hn]
section LA
variable {now : Nat → Int32} {ns nl : Nat} {vf vh vi vk : Nat → Int32}
theorem ap_dn (hI : LI now ns nl) {l : Nat} (hl : l < nl) {r : List Nat} (h : dn ns r) : dn ns (ap now l r).1 := by
  obtain ⟨kd, how, into, h1, h2, h3, h4, h5, h6, h7⟩ := hI.2.2 l hl
  unfold ap
  rw [gn_of h1 (by omega), gn_of h3 (by omega), gn_of h5 (by omega)]
  exact lwS_dn h7 h
theorem ap_t (l : Nat) (r : List Nat) : (ap now l r).2 ≤ r.length := lwS_t _ _ _ _ _ _ r
theorem ap_len (l : Nat) (r : List Nat) : (ap now l r).1.length ≤ 2 * r.length := lwS_len _ _ _ _ _ _ r
theorem ld1_some {l : Nat} {r x : List Nat} (h : ld1 now l r = some x) : x = (ap now l r).1 ∧ x.length ≤ 16 := by
  unfold ld1 at h
  split at h
  · rename_i c; cases h; exact ⟨rfl, c⟩
  · cases h
theorem lead_ap (hI : LI now ns nl) (hC : LC now ns nl vf vh vi vk) {l : Nat} (hl : l < nl) {r : List Nat} (h : dn ns r) (hr : r.length ≤ 16) (t : Int32) :
    ∃ t' : Int32, F_X1_lead (nI l) (wl r) t vf vh vi vk = some (wo (ld1 now l r), t') ∧ ((ap now l r).1.length ≤ 16 → t' = nI (ap now l r).2) := by
  obtain ⟨kd, how, into, h1, h2, h3, h4, h5, h6, h7⟩ := hI.2.2 l hl
  obtain ⟨c1, c2, c3, c4⟩ := hC l hl
  have hnl := hI.1
  obtain ⟨tb, t1, t2, t3⟩ := c4 0 (by decide)
  obtain ⟨lb, l1, l2, l3⟩ := c4 1 (by decide)
  obtain ⟨rb, r1, r2, r3⟩ := c4 2 (by decide)
  obtain ⟨t', e1, e2⟩ := lead_s (lb := lb) (rb := rb) (tb := tb) (r := r) (vf := vf) t (show l < 16 by omega) (c2.trans h3) h4 (c3.trans h5) h6 (c1.trans h1) h2 (by omega) (by omega) (by omega) t2 l2 r2 (dn_dg h hI.2.1) hr
  have ec : lwS kd how into tb.testBit lb.testBit rb.testBit r = ap now l r := by
    unfold ap
    rw [gn_of h1 (by omega), gn_of h3 (by omega), gn_of h5 (by omega)]
    exact lwS_cong (n := ns) (fun q hq => t3 q (Or.inl hq)) l3 r3 h7 h
  rw [ec] at e1 e2
  refine ⟨t', ?_, e2⟩
  rw [e1]
  unfold ld1
  split <;> rfl
theorem go_ap (hI : LI now ns nl) {l : Nat} (hl : l < nl) {word : Nat → Int32} {r : List Nat} (h : dn ns r) (hr : r.length ≤ 16) (hw : arr word r.reverse) (mk0 ch0 : Int32) (made : Nat → Int32) :
    ∃ made' word', F_X11_go (nI l) (nI r.length) mk0 ch0 made now word = some (if (ap now l r).1.length ≤ 16 then 1 else 0, if (ap now l r).1.length ≤ 16 then nI (ap now l r).1.length else nI r.length, nI (ap now l r).1.length, nI (ap now l r).2, made', word') ∧ ((ap now l r).1.length ≤ 16 → arr word' (ap now l r).1.reverse) := by
  obtain ⟨kd, how, into, h1, h2, h3, h4, h5, h6, h7⟩ := hI.2.2 l hl
  have hnl := hI.1
  have hg := m_go (now := now) (word := word) (xs := r.reverse) (show l < 16 by omega) h1 h2 h3 h4 h5 h6 (dg_rev.mpr (dn_dg h hI.2.1)) (by rw [List.length_reverse]; exact hr) hw mk0 ch0 made
  rw [List.length_reverse, List.reverse_reverse] at hg
  have e : lwS kd how into (fsb now l 0) (fsb now l 1) (fsb now l 2) r = ap now l r := by
    unfold ap
    rw [gn_of h1 (by omega), gn_of h3 (by omega), gn_of h5 (by omega)]
  rw [e] at hg
  exact hg
end LA
