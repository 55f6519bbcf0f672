/-! a row of laws: ls as the array holds it -/
section AL
variable {now : Nat → Int32} {ns nl : Nat} {vf vh vi vk : Nat → Int32} {ls : List Nat} {row : Nat → Int32}
theorem wo_none : wo none = 0 := rfl
theorem wo_some (r : List Nat) : wo (some r) = wl r := rfl
theorem c_alongN (hls : arr row ls) (h36 : ls.length ≤ 36) (fuel : Nat) (i : Nat) (t : Int32) (hf : 0 < fuel) : F_X4_leadAlong_6L vf vh vi vk (nI ls.length) row fuel 0 (nI i) t = some (0, t) := by
  cases fuel with
  | zero => omega
  | succ fuel =>
    show F_X4_leadAlong_6 _ 0 (nI i) t vf vh vi vk (nI ls.length) row = _
    unfold F_X4_leadAlong_6
    split
    · rfl
    · rw [if_pos rfl]
theorem c_along (hI : LI now ns nl) (hC : LC now ns nl vf vh vi vk) (hls : arr row ls) (h36 : ls.length ≤ 36) (hv : dn nl ls) (fuel : Nat) :
    ∀ (i : Nat) (r : List Nat) (t : Int32), i ≤ ls.length → dn ns r → r.length ≤ 16 → ls.length - i + 1 < fuel → ∃ t', F_X4_leadAlong_6L vf vh vi vk (nI ls.length) row fuel (wl r) (nI i) t = some (wo (ldA now (ls.drop i) r), t') := by
  induction fuel with
  | zero => intro i r t _ _ _ h; exact absurd h (Nat.not_lt_zero _)
  | succ fuel ih =>
    intro i r t hi hr hrl hf
    show ∃ t', F_X4_leadAlong_6 (F_X4_leadAlong_6L vf vh vi vk (nI ls.length) row fuel) (wl r) (nI i) t vf vh vi vk (nI ls.length) row = _
    unfold F_X4_leadAlong_6
    by_cases c : i < ls.length
    · have hl : ls.getD i 0 < nl := by
        have hm : ls.getD i 0 ∈ ls := by
          rw [List.getD_eq_getElem?_getD, List.getElem?_eq_getElem c]
          exact List.getElem_mem c
        exact hv _ hm
      rw [if_neg (nI_ge c (by omega)), if_neg (wl_ne0 (dn_dg hr hI.2.1) (by omega)), ck_ok rfl (show i < 36 by omega) (by decide), nI_clamp (by omega), hls i c]
      obtain ⟨t', e1, -⟩ := lead_ap hI hC hl hr hrl t
      rw [e1, b2_s, lt_e, nI_1, drop_hd c]
      show ∃ t'', F_X4_leadAlong_6L vf vh vi vk (nI ls.length) row fuel (wo (ld1 now (ls.getD i 0) r)) (nI (i + 1)) t' = some (wo ((ld1 now (ls.getD i 0) r).bind (ldA now (ls.drop (i + 1)))), t'')
      cases hx : ld1 now (ls.getD i 0) r with
      | none => exact ⟨t', c_alongN hls h36 fuel (i + 1) t' (by omega)⟩
      | some x =>
        obtain ⟨ex, hxl⟩ := ld1_some hx
        exact ih (i + 1) x t' c (by rw [ex]; exact ap_dn hI hl hr) hxl (by omega)
    · rw [if_pos (nI_le (by omega) (by omega)), List.drop_eq_nil_of_le (by omega)]
      exact ⟨t, rfl⟩
theorem c_leadAlong (hI : LI now ns nl) (hC : LC now ns nl vf vh vi vk) (hls : arr row ls) (h36 : ls.length ≤ 36) (hv : dn nl ls) {r : List Nat} (t : Int32) (hr : dn ns r) (hrl : r.length ≤ 16) : ∃ t', F_X4_leadAlong (wl r) t vf vh vi vk (nI ls.length) row = some (wo (ldA now ls r), t') := by
  obtain ⟨t', e⟩ := c_along hI hC hls h36 hv fu_ 0 r t (Nat.zero_le _) hr hrl (by unfold fu_; omega)
  rw [List.drop_zero] at e
  exact ⟨t', e⟩
/-- the reference along a row -/
theorem m_all (hI : LI now ns nl) (hls : arr row ls) (h36 : ls.length ≤ 36) (hv : dn nl ls) (fuel : Nat) :
    ∀ (i : Nat) (r : List Nat) (mk0 ch0 : Int32) (made word : Nat → Int32), i ≤ ls.length → dn ns r → r.length ≤ 16 → arr word r.reverse → ls.length - i + 1 < fuel →
    ∃ sz mk ch made' word', F_X11_goAll_4L (nI ls.length) now row fuel 1 (nI i) (nI r.length) mk0 ch0 made word = some (if (ldA now (ls.drop i) r).isSome then 1 else 0, sz, mk, ch, made', word') ∧ ∀ x, ldA now (ls.drop i) r = some x → sz = nI x.length ∧ arr word' x.reverse := by
  induction fuel with
  | zero => intro i r mk0 ch0 made word _ _ _ _ h; exact absurd h (Nat.not_lt_zero _)
  | succ fuel ih =>
    intro i r mk0 ch0 made word hi hr hrl hw hf
    have e0 : F_X11_goAll_4L (nI ls.length) now row (fuel + 1) 1 (nI i) (nI r.length) mk0 ch0 made word = F_X11_goAll_4 (F_X11_goAll_4L (nI ls.length) now row fuel) 1 (nI i) (nI ls.length) (nI r.length) mk0 ch0 made now row word := rfl
    rw [e0]
    unfold F_X11_goAll_4
    by_cases c : i < ls.length
    · have hl : ls.getD i 0 < nl := by
        have hm : ls.getD i 0 ∈ ls := by
          rw [List.getD_eq_getElem?_getD, List.getElem?_eq_getElem c]
          exact List.getElem_mem c
        exact hv _ hm
      rw [if_neg (nI_ge c (by omega)), if_neg (by decide), ck_ok rfl (show i < 36 by omega) (by decide), nI_clamp (by omega), hls i c]
      obtain ⟨made', word', e1, e2⟩ := go_ap hI hl hr hrl hw mk0 ch0 made
      rw [e1, drop_hd c]
      show ∃ sz mk ch made'' word'', lt_ (nI i + 1) (fun y10 => F_X11_goAll_4L (nI ls.length) now row fuel _ y10 _ _ _ made' word') = some (if ((ld1 now (ls.getD i 0) r).bind (ldA now (ls.drop (i + 1)))).isSome then 1 else 0, sz, mk, ch, made'', word'') ∧ ∀ x, (ld1 now (ls.getD i 0) r).bind (ldA now (ls.drop (i + 1))) = some x → _
      rw [lt_e, nI_1]
      by_cases cl : (ap now (ls.getD i 0) r).1.length ≤ 16
      · have hx : ld1 now (ls.getD i 0) r = some (ap now (ls.getD i 0) r).1 := by unfold ld1; rw [if_pos cl]
        rw [if_pos cl, if_pos cl, hx]
        exact ih (i + 1) _ _ _ made' word' c (ap_dn hI hl hr) cl (e2 cl) (by omega)
      · have hx : ld1 now (ls.getD i 0) r = none := by unfold ld1; rw [if_neg cl]
        rw [if_neg cl, if_neg cl, hx]
        cases fuel with
        | zero => omega
        | succ fuel =>
          refine ⟨nI r.length, nI (ap now (ls.getD i 0) r).1.length, nI (ap now (ls.getD i 0) r).2, made', word', ?_, fun x h => by cases h⟩
          show F_X11_goAll_4 _ 0 (nI (i + 1)) (nI ls.length) (nI r.length) _ _ made' now row word' = _
          unfold F_X11_goAll_4
          split
          · rw [zb_ok (Or.inl rfl)]; rfl
          · rw [if_pos rfl, zb_ok (Or.inl rfl)]; rfl
    · rw [if_pos (nI_le (by omega) (by omega)), List.drop_eq_nil_of_le (by omega), zb_ok (Or.inr rfl)]
      exact ⟨_, _, _, _, _, rfl, fun x h => by cases h; exact ⟨rfl, hw⟩⟩
theorem m_goAll (hI : LI now ns nl) (hls : arr row ls) (h36 : ls.length ≤ 36) (hv : dn nl ls) {r : List Nat} (mk0 ch0 : Int32) (made word : Nat → Int32) (hr : dn ns r) (hrl : r.length ≤ 16) (hw : arr word r.reverse) :
    ∃ sz mk ch made' word', F_X11_goAll (nI ls.length) (nI r.length) mk0 ch0 made now row word = some (if (ldA now ls r).isSome then 1 else 0, sz, mk, ch, made', word') ∧ ∀ x, ldA now ls r = some x → sz = nI x.length ∧ arr word' x.reverse := by
  have := m_all hI hls h36 hv fu_ 0 r mk0 ch0 made word (Nat.zero_le _) hr hrl hw (by unfold fu_; omega)
  rw [List.drop_zero] at this
  exact this
end AL
