theorem dX9_last_0 : decode cX9_last 0 = .ok (.lload_n 0, 1) := by decide +kernel
theorem dX9_last_1 : decode cX9_last 1 = .ok (.lconst 1, 1) := by decide +kernel
theorem dX9_last_2 : decode cX9_last 2 = .ok (.lcmp, 1) := by decide +kernel
theorem dX9_last_3 : decode cX9_last 3 = .ok (.ifCond .le 12, 3) := by decide +kernel
theorem dX9_last_6 : decode cX9_last 6 = .ok (.lload_n 0, 1) := by decide +kernel
theorem dX9_last_7 : decode cX9_last 7 = .ok (.ldc2_w 11, 3) := by decide +kernel
theorem dX9_last_10 : decode cX9_last 10 = .ok (.land, 1) := by decide +kernel
theorem dX9_last_11 : decode cX9_last 11 = .ok (.l2i, 1) := by decide +kernel
theorem dX9_last_12 : decode cX9_last 12 = .ok (.goto 5, 3) := by decide +kernel
theorem dX9_last_15 : decode cX9_last 15 = .ok (.bipush 8, 2) := by decide +kernel
theorem dX9_last_17 : decode cX9_last 17 = .ok (.ireturn, 1) := by decide +kernel
def rm_X9_last : Room := { frames := 0, cells := 0, slots := 0, locals := 0 }
def F_X9_last_0  (x0 : Int64) : Option (Int32) := if x0 ≤ (1 : Int64) then (some ((8 : Int32))) else (some ((Int64.toInt32 (x0 &&& (7 : Int64)))))
set_option maxHeartbeats 4000000 in
theorem w_X9_last_0 {B : bu_T} {r : Int32}  (K : cx B cX9_last "SoundDesk$Words" rm_X9_last 2) (hQ : rt B cX9_last 2 (some .int) rm_X9_last (some (.int r)) (fun x => x = [])) {x0 : Int64} (hF : F_X9_last_0  x0 = some (r)) : gg B 2 0 0 0 [(0, .long x0)] [] [] := by
  unfold F_X9_last_0 at hF
  refine gg_lload_n (pc := 0) K 0 dX9_last_0 rfl rfl ?_
  refine gg_lconst (v := (1 : Int64)) (pc := 1) K dX9_last_1 (by decide) ?_
  refine gg_lcmp_le (pc := 2) K 15 dX9_last_2 dX9_last_3 rfl hF (fun c1 hF => ?_) (fun c1 hF => ?_)
  · refine gg_bipush (v := (8 : Int32)) (pc := 15) K dX9_last_15 (by decide) ?_
    cases hF
    exact (hQ _ _ _ rfl).2.1 _ _ rfl rfl rfl dX9_last_17
  · refine gg_lload_n (pc := 6) K 0 dX9_last_6 rfl rfl ?_
    refine gg_ldc2_w (v := (7 : Int64)) (pc := 7) K q_3_15 dX9_last_7 ?_
    refine gg_land (pc := 10) K dX9_last_10 ?_
    refine gg_l2i (pc := 11) K dX9_last_11 ?_
    refine gg_goto (pc := 12) K 17 dX9_last_12 rfl ?_
    cases hF
    exact (hQ _ _ _ rfl).2.1 _ _ rfl rfl rfl dX9_last_17
def F_X9_last (x0 : Int64)  : Option (Int32) := F_X9_last_0 x0
theorem n_X9_last : yX9_last.cls ≠ "java/lang/invoke/MethodHandle" ∧ yX9_last.cls ≠ "java/lang/invoke/VarHandle" ∧ (parseMethodDescriptor yX9_last.desc).map (fun d => d.parameters.length) = some 1 := by decide +kernel
theorem c_X9_last (l : Launch) (E : en_T) (x0 : Int64)  {r : Int32}  (hF : F_X9_last x0  = some (r)) : ct l yX9_last cX9_last 2 (some .int) rm_X9_last E [.long x0] [] (some (.int r)) (fun x => x = []) := by
  refine ct_of (by decide +kernel) (Nat.le_of_ble_eq_true rfl) (fun B hl hE _ K hQ => ?_)
  subst hl; subst hE
  refine gg_sub (lv' := [(0, .long x0)]) [0] rfl ?_
  exact w_X9_last_0 K hQ hF
theorem dX9_withoutLast_0 : decode cX9_withoutLast 0 = .ok (.lload_n 0, 1) := by decide +kernel
theorem dX9_withoutLast_1 : decode cX9_withoutLast 1 = .ok (.lconst 1, 1) := by decide +kernel
theorem dX9_withoutLast_2 : decode cX9_withoutLast 2 = .ok (.lcmp, 1) := by decide +kernel
theorem dX9_withoutLast_3 : decode cX9_withoutLast 3 = .ok (.ifCond .le 9, 3) := by decide +kernel
theorem dX9_withoutLast_6 : decode cX9_withoutLast 6 = .ok (.lload_n 0, 1) := by decide +kernel
theorem dX9_withoutLast_7 : decode cX9_withoutLast 7 = .ok (.iconst 3, 1) := by decide +kernel
theorem dX9_withoutLast_8 : decode cX9_withoutLast 8 = .ok (.lushr, 1) := by decide +kernel
theorem dX9_withoutLast_9 : decode cX9_withoutLast 9 = .ok (.goto 4, 3) := by decide +kernel
theorem dX9_withoutLast_12 : decode cX9_withoutLast 12 = .ok (.lload_n 0, 1) := by decide +kernel
theorem dX9_withoutLast_13 : decode cX9_withoutLast 13 = .ok (.lreturn, 1) := by decide +kernel
def rm_X9_withoutLast : Room := { frames := 0, cells := 0, slots := 0, locals := 0 }
def F_X9_withoutLast_0  (x0 : Int64) : Option (Int64) := if x0 ≤ (1 : Int64) then (some (x0)) else (some ((ul_ x0 (3 : Int32))))
set_option maxHeartbeats 4000000 in
theorem w_X9_withoutLast_0 {B : bu_T} {r : Int64}  (K : cx B cX9_withoutLast "SoundDesk$Words" rm_X9_withoutLast 2) (hQ : rt B cX9_withoutLast 2 (some .long) rm_X9_withoutLast (some (.long r)) (fun x => x = [])) {x0 : Int64} (hF : F_X9_withoutLast_0  x0 = some (r)) : gg B 2 0 0 0 [(0, .long x0)] [] [] := by
  unfold F_X9_withoutLast_0 at hF
  refine gg_lload_n (pc := 0) K 0 dX9_withoutLast_0 rfl rfl ?_
  refine gg_lconst (v := (1 : Int64)) (pc := 1) K dX9_withoutLast_1 (by decide) ?_
  refine gg_lcmp_le (pc := 2) K 12 dX9_withoutLast_2 dX9_withoutLast_3 rfl hF (fun c1 hF => ?_) (fun c1 hF => ?_)
  · refine gg_lload_n (pc := 12) K 0 dX9_withoutLast_12 rfl rfl ?_
    cases hF
    exact (hQ _ _ _ rfl).2.2 _ rfl rfl dX9_withoutLast_13
  · refine gg_lload_n (pc := 6) K 0 dX9_withoutLast_6 rfl rfl ?_
    refine gg_iconst (v := (3 : Int32)) (pc := 7) K dX9_withoutLast_7 (by decide) ?_
    refine gg_lushr (pc := 8) K dX9_withoutLast_8 ?_
    refine gg_goto (pc := 9) K 13 dX9_withoutLast_9 rfl ?_
    cases hF
    exact (hQ _ _ _ rfl).2.2 _ rfl rfl dX9_withoutLast_13
def F_X9_withoutLast (x0 : Int64)  : Option (Int64) := F_X9_withoutLast_0 x0
theorem n_X9_withoutLast : yX9_withoutLast.cls ≠ "java/lang/invoke/MethodHandle" ∧ yX9_withoutLast.cls ≠ "java/lang/invoke/VarHandle" ∧ (parseMethodDescriptor yX9_withoutLast.desc).map (fun d => d.parameters.length) = some 1 := by decide +kernel
theorem c_X9_withoutLast (l : Launch) (E : en_T) (x0 : Int64)  {r : Int64}  (hF : F_X9_withoutLast x0  = some (r)) : ct l yX9_withoutLast cX9_withoutLast 2 (some .long) rm_X9_withoutLast E [.long x0] [] (some (.long r)) (fun x => x = []) := by
  refine ct_of (by decide +kernel) (Nat.le_of_ble_eq_true rfl) (fun B hl hE _ K hQ => ?_)
  subst hl; subst hE
  refine gg_sub (lv' := [(0, .long x0)]) [0] rfl ?_
  exact w_X9_withoutLast_0 K hQ hF
theorem dX9_add_0 : decode cX9_add 0 = .ok (.lload_n 0, 1) := by decide +kernel
theorem dX9_add_1 : decode cX9_add 1 = .ok (.iconst 3, 1) := by decide +kernel
theorem dX9_add_2 : decode cX9_add 2 = .ok (.lshl, 1) := by decide +kernel
theorem dX9_add_3 : decode cX9_add 3 = .ok (.iload_n 2, 1) := by decide +kernel
theorem dX9_add_4 : decode cX9_add 4 = .ok (.bipush 7, 2) := by decide +kernel
theorem dX9_add_6 : decode cX9_add 6 = .ok (.iand, 1) := by decide +kernel
theorem dX9_add_7 : decode cX9_add 7 = .ok (.i2l, 1) := by decide +kernel
theorem dX9_add_8 : decode cX9_add 8 = .ok (.lor, 1) := by decide +kernel
theorem dX9_add_9 : decode cX9_add 9 = .ok (.lreturn, 1) := by decide +kernel
def rm_X9_add : Room := { frames := 0, cells := 0, slots := 0, locals := 0 }
def F_X9_add_0  (x0 : Int64) (x2 : Int32) : Option (Int64) := some (((sl_ x0 (3 : Int32)) ||| (Int32.toInt64 (x2 &&& (7 : Int32)))))
set_option maxHeartbeats 4000000 in
theorem w_X9_add_0 {B : bu_T} {r : Int64}  (K : cx B cX9_add "SoundDesk$Words" rm_X9_add 3) (hQ : rt B cX9_add 3 (some .long) rm_X9_add (some (.long r)) (fun x => x = [])) {x0 : Int64} {x2 : Int32} (hF : F_X9_add_0  x0 x2 = some (r)) : gg B 3 0 0 0 [(0, .long x0), (2, .int x2)] [] [] := by
  unfold F_X9_add_0 at hF
  refine gg_lload_n (pc := 0) K 0 dX9_add_0 rfl rfl ?_
  refine gg_iconst (v := (3 : Int32)) (pc := 1) K dX9_add_1 (by decide) ?_
  refine gg_lshl (pc := 2) K dX9_add_2 ?_
  refine gg_iload_n (pc := 3) K 1 dX9_add_3 rfl rfl ?_
  refine gg_bipush (v := (7 : Int32)) (pc := 4) K dX9_add_4 (by decide) ?_
  refine gg_iand (pc := 6) K dX9_add_6 ?_
  refine gg_i2l (pc := 7) K dX9_add_7 ?_
  refine gg_lor (pc := 8) K dX9_add_8 ?_
  cases hF
  exact (hQ _ _ _ rfl).2.2 _ rfl rfl dX9_add_9
def F_X9_add (x0 : Int64) (x2 : Int32)  : Option (Int64) := F_X9_add_0 x0 x2
theorem n_X9_add : yX9_add.cls ≠ "java/lang/invoke/MethodHandle" ∧ yX9_add.cls ≠ "java/lang/invoke/VarHandle" ∧ (parseMethodDescriptor yX9_add.desc).map (fun d => d.parameters.length) = some 2 := by decide +kernel
theorem c_X9_add (l : Launch) (E : en_T) (x0 : Int64) (x2 : Int32)  {r : Int64}  (hF : F_X9_add x0 x2  = some (r)) : ct l yX9_add cX9_add 3 (some .long) rm_X9_add E [.long x0, .int x2] [] (some (.long r)) (fun x => x = []) := by
  refine ct_of (by decide +kernel) (Nat.le_of_ble_eq_true rfl) (fun B hl hE _ K hQ => ?_)
  subst hl; subst hE
  refine gg_sub (lv' := [(0, .long x0), (2, .int x2)]) [0, 1] rfl ?_
  exact w_X9_add_0 K hQ hF
theorem dX9_isTooLong_0 : decode cX9_isTooLong 0 = .ok (.lload_n 0, 1) := by decide +kernel
theorem dX9_isTooLong_1 : decode cX9_isTooLong 1 = .ok (.ldc2_w 9, 3) := by decide +kernel
theorem dX9_isTooLong_4 : decode cX9_isTooLong 4 = .ok (.lcmp, 1) := by decide +kernel
theorem dX9_isTooLong_5 : decode cX9_isTooLong 5 = .ok (.ifCond .lt 7, 3) := by decide +kernel
theorem dX9_isTooLong_8 : decode cX9_isTooLong 8 = .ok (.iconst 1, 1) := by decide +kernel
theorem dX9_isTooLong_9 : decode cX9_isTooLong 9 = .ok (.goto 4, 3) := by decide +kernel
theorem dX9_isTooLong_12 : decode cX9_isTooLong 12 = .ok (.iconst 0, 1) := by decide +kernel
theorem dX9_isTooLong_13 : decode cX9_isTooLong 13 = .ok (.ireturn, 1) := by decide +kernel
def rm_X9_isTooLong : Room := { frames := 0, cells := 0, slots := 0, locals := 0 }
def F_X9_isTooLong_0  (x0 : Int64) : Option (Int32) := if x0 < (2251799813685248 : Int64) then (some ((0 : Int32))) else (some ((1 : Int32)))
set_option maxHeartbeats 4000000 in
theorem w_X9_isTooLong_0 {B : bu_T} {r : Int32}  (K : cx B cX9_isTooLong "SoundDesk$Words" rm_X9_isTooLong 2) (hQ : rt B cX9_isTooLong 2 (some .boolean) rm_X9_isTooLong (some (.int r)) (fun x => x = [])) {x0 : Int64} (hF : F_X9_isTooLong_0  x0 = some (r)) : gg B 2 0 0 0 [(0, .long x0)] [] [] := by
  unfold F_X9_isTooLong_0 at hF
  refine gg_lload_n (pc := 0) K 0 dX9_isTooLong_0 rfl rfl ?_
  refine gg_ldc2_w (v := (2251799813685248 : Int64)) (pc := 1) K q_3_28 dX9_isTooLong_1 ?_
  refine gg_lcmp_lt (pc := 4) K 12 dX9_isTooLong_4 dX9_isTooLong_5 rfl hF (fun c1 hF => ?_) (fun c1 hF => ?_)
  · refine gg_iconst (v := (0 : Int32)) (pc := 12) K dX9_isTooLong_12 (by decide) ?_
    cases hF
    exact (hQ _ _ _ rfl).2.1 _ _ rfl rfl rfl dX9_isTooLong_13
  · refine gg_iconst (v := (1 : Int32)) (pc := 8) K dX9_isTooLong_8 (by decide) ?_
    refine gg_goto (pc := 9) K 13 dX9_isTooLong_9 rfl ?_
    cases hF
    exact (hQ _ _ _ rfl).2.1 _ _ rfl rfl rfl dX9_isTooLong_13
def F_X9_isTooLong (x0 : Int64)  : Option (Int32) := F_X9_isTooLong_0 x0
theorem n_X9_isTooLong : yX9_isTooLong.cls ≠ "java/lang/invoke/MethodHandle" ∧ yX9_isTooLong.cls ≠ "java/lang/invoke/VarHandle" ∧ (parseMethodDescriptor yX9_isTooLong.desc).map (fun d => d.parameters.length) = some 1 := by decide +kernel
theorem c_X9_isTooLong (l : Launch) (E : en_T) (x0 : Int64)  {r : Int32}  (hF : F_X9_isTooLong x0  = some (r)) : ct l yX9_isTooLong cX9_isTooLong 2 (some .boolean) rm_X9_isTooLong E [.long x0] [] (some (.int r)) (fun x => x = []) := by
  refine ct_of (by decide +kernel) (Nat.le_of_ble_eq_true rfl) (fun B hl hE _ K hQ => ?_)
  subst hl; subst hE
  refine gg_sub (lv' := [(0, .long x0)]) [0] rfl ?_
  exact w_X9_isTooLong_0 K hQ hF
theorem dX9_turned_0 : decode cX9_turned 0 = .ok (.lload_n 0, 1) := by decide +kernel
theorem dX9_turned_1 : decode cX9_turned 1 = .ok (.lconst 0, 1) := by decide +kernel
theorem dX9_turned_2 : decode cX9_turned 2 = .ok (.lcmp, 1) := by decide +kernel
theorem dX9_turned_3 : decode cX9_turned 3 = .ok (.ifCond .ne 5, 3) := by decide +kernel
theorem dX9_turned_6 : decode cX9_turned 6 = .ok (.lconst 0, 1) := by decide +kernel
theorem dX9_turned_7 : decode cX9_turned 7 = .ok (.lreturn, 1) := by decide +kernel
theorem dX9_turned_8 : decode cX9_turned 8 = .ok (.lconst 1, 1) := by decide +kernel
theorem dX9_turned_9 : decode cX9_turned 9 = .ok (.lstore_n 2, 1) := by decide +kernel
theorem dX9_turned_10 : decode cX9_turned 10 = .ok (.lload_n 0, 1) := by decide +kernel
theorem dX9_turned_11 : decode cX9_turned 11 = .ok (.lstore 4, 2) := by decide +kernel
theorem dX9_turned_13 : decode cX9_turned 13 = .ok (.iconst 0, 1) := by decide +kernel
theorem dX9_turned_14 : decode cX9_turned 14 = .ok (.istore 6, 2) := by decide +kernel
theorem dX9_turned_16 : decode cX9_turned 16 = .ok (.iload 6, 2) := by decide +kernel
theorem dX9_turned_18 : decode cX9_turned 18 = .ok (.bipush 16, 2) := by decide +kernel
theorem dX9_turned_20 : decode cX9_turned 20 = .ok (.if_icmp .ge 33, 3) := by decide +kernel
theorem dX9_turned_23 : decode cX9_turned 23 = .ok (.lload 4, 2) := by decide +kernel
theorem dX9_turned_25 : decode cX9_turned 25 = .ok (.lconst 1, 1) := by decide +kernel
theorem dX9_turned_26 : decode cX9_turned 26 = .ok (.lcmp, 1) := by decide +kernel
theorem dX9_turned_27 : decode cX9_turned 27 = .ok (.ifCond .le 26, 3) := by decide +kernel
theorem dX9_turned_30 : decode cX9_turned 30 = .ok (.lload_n 2, 1) := by decide +kernel
theorem dX9_turned_31 : decode cX9_turned 31 = .ok (.lload 4, 2) := by decide +kernel
theorem dX9_turned_33 : decode cX9_turned 33 = .ok (.invokestatic 21, 3) := by decide +kernel
theorem dX9_turned_36 : decode cX9_turned 36 = .ok (.invokestatic 24, 3) := by decide +kernel
theorem dX9_turned_39 : decode cX9_turned 39 = .ok (.lstore_n 2, 1) := by decide +kernel
theorem dX9_turned_40 : decode cX9_turned 40 = .ok (.lload 4, 2) := by decide +kernel
theorem dX9_turned_42 : decode cX9_turned 42 = .ok (.invokestatic 13, 3) := by decide +kernel
theorem dX9_turned_45 : decode cX9_turned 45 = .ok (.lstore 4, 2) := by decide +kernel
theorem dX9_turned_47 : decode cX9_turned 47 = .ok (.iinc 6 1, 3) := by decide +kernel
theorem dX9_turned_50 : decode cX9_turned 50 = .ok (.goto (-34), 3) := by decide +kernel
theorem dX9_turned_53 : decode cX9_turned 53 = .ok (.lload_n 2, 1) := by decide +kernel
theorem dX9_turned_54 : decode cX9_turned 54 = .ok (.lreturn, 1) := by decide +kernel
def rm_X9_turned : Room := { frames := 1, cells := 0, slots := 0, locals := 22 }
def F_X9_turned_16 (k16 : Int64 → Int64 → Int32 → Option (Int64)) (x2 : Int64) (x4 : Int64) (x6 : Int32) : Option (Int64) := if (16 : Int32) ≤ x6 then (some (x2)) else (if x4 ≤ (1 : Int64) then (some (x2)) else (bn1_ (F_X9_last x4) (fun y3 => bn1_ (F_X9_add x2 y3) (fun y5 => bn1_ (F_X9_withoutLast x4) (fun y7 => lt_ (x6 + (1 : Int32)) (fun y9 => k16 y5 y7 y9))))))
set_option maxHeartbeats 4000000 in
theorem w_X9_turned_16 {B : bu_T} {r : Int64}  (K : cx B cX9_turned "SoundDesk$Words" rm_X9_turned 7) (hQ : rt B cX9_turned 7 (some .long) rm_X9_turned (some (.long r)) (fun x => x = [])) {x2 : Int64} {x4 : Int64} {x6 : Int32} {k16 : Int64 → Int64 → Int32 → Option (Int64)} (hk16 : ∀ (x2 : Int64) (x4 : Int64) (x6 : Int32), k16 x2 x4 x6 = some (r) → gg B 7 0 0 16 [(2, .long x2), (4, .long x4), (6, .int x6)] [] []) (hF : F_X9_turned_16 k16 x2 x4 x6 = some (r)) : gg B 7 0 0 16 [(2, .long x2), (4, .long x4), (6, .int x6)] [] [] := by
  unfold F_X9_turned_16 at hF
  refine gg_iload (pc := 16) K 2 dX9_turned_16 rfl ?_
  refine gg_bipush (v := (16 : Int32)) (pc := 18) K dX9_turned_18 (by decide) ?_
  refine gg_icmp_ge (pc := 20) K 53 dX9_turned_20 rfl hF (fun c1 hF => ?_) (fun c1 hF => ?_)
  · refine gg_lload_n (pc := 53) K 0 dX9_turned_53 rfl rfl ?_
    cases hF
    exact (hQ _ _ _ rfl).2.2 _ rfl rfl dX9_turned_54
  · refine gg_lload (pc := 23) K 1 dX9_turned_23 rfl ?_
    refine gg_lconst (v := (1 : Int64)) (pc := 25) K dX9_turned_25 (by decide) ?_
    refine gg_lcmp_le (pc := 26) K 53 dX9_turned_26 dX9_turned_27 rfl hF (fun c2 hF => ?_) (fun c2 hF => ?_)
    · refine gg_lload_n (pc := 53) K 0 dX9_turned_53 rfl rfl ?_
      cases hF
      exact (hQ _ _ _ rfl).2.2 _ rfl rfl dX9_turned_54
    · refine gg_lload_n (pc := 30) K 0 dX9_turned_30 rfl rfl ?_
      refine gg_lload (pc := 31) K 1 dX9_turned_31 rfl ?_
      obtain ⟨y3, hc4, hF⟩ := bn1_some hF
      refine gg_dS (pc := 33) (st' := [.int y3, .long x2]) (rest := [.long x2]) (w' := []) K (c_X9_last (bu_l B) (bu_E B) x4 hc4) ⟨rfl, rfl⟩ q_3_32 q_3_13 q_1_13 q_3_14 n_X9_last ⟨(Nat.le_of_ble_eq_true rfl), (Nat.le_of_ble_eq_true rfl)⟩ [] [] rfl rfl rfl rfl rfl rfl (by decide) rfl rfl rfl ⟨Nat.zero_le _, Nat.zero_le _⟩ (Nat.le_of_ble_eq_true rfl) dX9_turned_33 ?_
      obtain ⟨y5, hc6, hF⟩ := bn1_some hF
      refine gg_dS (pc := 36) (st' := [.long y5]) (rest := []) (w' := []) K (c_X9_add (bu_l B) (bu_E B) x2 y3 hc6) ⟨rfl, rfl⟩ q_3_33 q_2_221 q_1_13 q_2_222 n_X9_add ⟨(Nat.le_of_ble_eq_true rfl), (Nat.le_of_ble_eq_true rfl)⟩ [] [] rfl rfl rfl rfl rfl rfl (by decide) rfl rfl rfl ⟨Nat.zero_le _, Nat.zero_le _⟩ (Nat.le_of_ble_eq_true rfl) dX9_turned_36 ?_
      refine gg_lstore_n (pc := 39) (lv' := [(2, .long y5), (4, .long x4), (6, .int x6)]) K [0, 1, 2] dX9_turned_39 rfl (by decide) rfl ?_
      refine gg_lload (pc := 40) K 1 dX9_turned_40 rfl ?_
      obtain ⟨y7, hc8, hF⟩ := bn1_some hF
      refine gg_dS (pc := 42) (st' := [.long y7]) (rest := []) (w' := []) K (c_X9_withoutLast (bu_l B) (bu_E B) x4 hc8) ⟨rfl, rfl⟩ q_2_217 q_2_218 q_1_13 q_2_219 n_X9_withoutLast ⟨(Nat.le_of_ble_eq_true rfl), (Nat.le_of_ble_eq_true rfl)⟩ [] [] rfl rfl rfl rfl rfl rfl (by decide) rfl rfl rfl ⟨Nat.zero_le _, Nat.zero_le _⟩ (Nat.le_of_ble_eq_true rfl) dX9_turned_42 ?_
      refine gg_lstore (pc := 45) (lv' := [(2, .long y5), (4, .long y7), (6, .int x6)]) K [1, 0, 2] dX9_turned_45 (by decide) rfl ?_
      refine gg_iinc (pc := 47) (v := (1 : Int32)) (lw := fun zz => [(2, .long y5), (4, .long y7), (6, .int zz)]) K 2 [1, 2, 0] dX9_turned_47 rfl rfl (by decide) hF (fun _ => rfl) (fun y9 ey9 hF => ?_)
      refine gg_goto (pc := 50) K 16 dX9_turned_50 rfl ?_
      exact hk16 y5 y7 y9 hF
def F_X9_turned_16L   (fuel : Nat) (x2 : Int64) (x4 : Int64) (x6 : Int32) : Option (Int64) := lp3_ (fun k16 x2 x4 x6 => F_X9_turned_16 k16 x2 x4 x6) fuel x2 x4 x6
theorem w_X9_turned_16L {B : bu_T} {r : Int64}  (K : cx B cX9_turned "SoundDesk$Words" rm_X9_turned 7) (hQ : rt B cX9_turned 7 (some .long) rm_X9_turned (some (.long r)) (fun x => x = []))  : ∀ (fuel : Nat) (x2 : Int64) (x4 : Int64) (x6 : Int32), F_X9_turned_16L   fuel x2 x4 x6 = some (r) → gg B 7 0 0 16 [(2, .long x2), (4, .long x4), (6, .int x6)] [] [] := by
  intro fuel
  induction fuel with
  | zero => intro x2 x4 x6 hF; exact absurd hF (by intro h; cases h)
  | succ fuel ih => intro x2 x4 x6 hF; exact w_X9_turned_16 K hQ ih hF
def F_X9_turned_0  (x0 : Int64) : Option (Int64) := if x0 = (0 : Int64) then (some ((0 : Int64))) else (F_X9_turned_16L   fu_ (1 : Int64) x0 (0 : Int32))
set_option maxHeartbeats 4000000 in
theorem w_X9_turned_0 {B : bu_T} {r : Int64}  (K : cx B cX9_turned "SoundDesk$Words" rm_X9_turned 7) (hQ : rt B cX9_turned 7 (some .long) rm_X9_turned (some (.long r)) (fun x => x = [])) {x0 : Int64} (hF : F_X9_turned_0  x0 = some (r)) : gg B 7 0 0 0 [(0, .long x0)] [] [] := by
  unfold F_X9_turned_0 at hF
  refine gg_lload_n (pc := 0) K 0 dX9_turned_0 rfl rfl ?_
  refine gg_lconst (v := (0 : Int64)) (pc := 1) K dX9_turned_1 (by decide) ?_
  refine gg_lcmp_ne (pc := 2) K 8 dX9_turned_2 dX9_turned_3 rfl hF (fun c10 hF => ?_) (fun c10 hF => ?_)
  · refine gg_lconst (v := (1 : Int64)) (pc := 8) K dX9_turned_8 (by decide) ?_
    refine gg_lstore_n (pc := 9) (lv' := [(0, .long x0), (2, .long (1 : Int64))]) K [1, 0] dX9_turned_9 rfl (by decide) rfl ?_
    refine gg_lload_n (pc := 10) K 0 dX9_turned_10 rfl rfl ?_
    refine gg_lstore (pc := 11) (lv' := [(0, .long x0), (2, .long (1 : Int64)), (4, .long x0)]) K [1, 2, 0] dX9_turned_11 (by decide) rfl ?_
    refine gg_iconst (v := (0 : Int32)) (pc := 13) K dX9_turned_13 (by decide) ?_
    refine gg_istore (pc := 14) (lv' := [(0, .long x0), (2, .long (1 : Int64)), (4, .long x0), (6, .int (0 : Int32))]) K [1, 2, 3, 0] dX9_turned_14 (by decide) rfl ?_
    refine gg_sub [1, 2, 3] rfl ?_
    exact w_X9_turned_16L K hQ  _ (1 : Int64) x0 (0 : Int32) hF
  · refine gg_lconst (v := (0 : Int64)) (pc := 6) K dX9_turned_6 (by decide) ?_
    cases hF
    exact (hQ _ _ _ rfl).2.2 _ rfl rfl dX9_turned_7
def F_X9_turned (x0 : Int64)  : Option (Int64) := F_X9_turned_0 x0
theorem n_X9_turned : yX9_turned.cls ≠ "java/lang/invoke/MethodHandle" ∧ yX9_turned.cls ≠ "java/lang/invoke/VarHandle" ∧ (parseMethodDescriptor yX9_turned.desc).map (fun d => d.parameters.length) = some 1 := by decide +kernel
theorem c_X9_turned (l : Launch) (E : en_T) (x0 : Int64)  {r : Int64}  (hF : F_X9_turned x0  = some (r)) : ct l yX9_turned cX9_turned 7 (some .long) rm_X9_turned E [.long x0] [] (some (.long r)) (fun x => x = []) := by
  refine ct_of (by decide +kernel) (Nat.le_of_ble_eq_true rfl) (fun B hl hE _ K hQ => ?_)
  subst hl; subst hE
  refine gg_sub (lv' := [(0, .long x0)]) [0] rfl ?_
  exact w_X9_turned_0 K hQ hF
theorem dX9_howMany_0 : decode cX9_howMany 0 = .ok (.iconst 1, 1) := by decide +kernel
theorem dX9_howMany_1 : decode cX9_howMany 1 = .ok (.istore_n 2, 1) := by decide +kernel
theorem dX9_howMany_2 : decode cX9_howMany 2 = .ok (.iconst 1, 1) := by decide +kernel
theorem dX9_howMany_3 : decode cX9_howMany 3 = .ok (.istore_n 3, 1) := by decide +kernel
theorem dX9_howMany_4 : decode cX9_howMany 4 = .ok (.iconst 1, 1) := by decide +kernel
theorem dX9_howMany_5 : decode cX9_howMany 5 = .ok (.istore 4, 2) := by decide +kernel
theorem dX9_howMany_7 : decode cX9_howMany 7 = .ok (.iload 4, 2) := by decide +kernel
theorem dX9_howMany_9 : decode cX9_howMany 9 = .ok (.iload_n 1, 1) := by decide +kernel
theorem dX9_howMany_10 : decode cX9_howMany 10 = .ok (.if_icmp .gt 17, 3) := by decide +kernel
theorem dX9_howMany_13 : decode cX9_howMany 13 = .ok (.iload_n 2, 1) := by decide +kernel
theorem dX9_howMany_14 : decode cX9_howMany 14 = .ok (.iload_n 0, 1) := by decide +kernel
theorem dX9_howMany_15 : decode cX9_howMany 15 = .ok (.imul, 1) := by decide +kernel
theorem dX9_howMany_16 : decode cX9_howMany 16 = .ok (.istore_n 2, 1) := by decide +kernel
theorem dX9_howMany_17 : decode cX9_howMany 17 = .ok (.iload_n 3, 1) := by decide +kernel
theorem dX9_howMany_18 : decode cX9_howMany 18 = .ok (.iload_n 2, 1) := by decide +kernel
theorem dX9_howMany_19 : decode cX9_howMany 19 = .ok (.iadd, 1) := by decide +kernel
theorem dX9_howMany_20 : decode cX9_howMany 20 = .ok (.istore_n 3, 1) := by decide +kernel
theorem dX9_howMany_21 : decode cX9_howMany 21 = .ok (.iinc 4 1, 3) := by decide +kernel
theorem dX9_howMany_24 : decode cX9_howMany 24 = .ok (.goto (-17), 3) := by decide +kernel
theorem dX9_howMany_27 : decode cX9_howMany 27 = .ok (.iload_n 3, 1) := by decide +kernel
theorem dX9_howMany_28 : decode cX9_howMany 28 = .ok (.ireturn, 1) := by decide +kernel
def rm_X9_howMany : Room := { frames := 0, cells := 0, slots := 0, locals := 0 }
def F_X9_howMany_7 (k7 : Int32 → Int32 → Int32 → Option (Int32)) (x0 : Int32) (x1 : Int32) (x2 : Int32) (x3 : Int32) (x4 : Int32) : Option (Int32) := if x1 < x4 then (some (x3)) else (lt_ (x2 * x0) (fun y2 => lt_ (x3 + y2) (fun y3 => lt_ (x4 + (1 : Int32)) (fun y4 => k7 y2 y3 y4))))
set_option maxHeartbeats 4000000 in
theorem w_X9_howMany_7 {B : bu_T} {r : Int32}  (K : cx B cX9_howMany "SoundDesk$Words" rm_X9_howMany 5) (hQ : rt B cX9_howMany 5 (some .int) rm_X9_howMany (some (.int r)) (fun x => x = [])) {x0 : Int32} {x1 : Int32} {x2 : Int32} {x3 : Int32} {x4 : Int32} {k7 : Int32 → Int32 → Int32 → Option (Int32)} (hk7 : ∀ (x2 : Int32) (x3 : Int32) (x4 : Int32), k7 x2 x3 x4 = some (r) → gg B 5 0 0 7 [(0, .int x0), (1, .int x1), (2, .int x2), (3, .int x3), (4, .int x4)] [] []) (hF : F_X9_howMany_7 k7 x0 x1 x2 x3 x4 = some (r)) : gg B 5 0 0 7 [(0, .int x0), (1, .int x1), (2, .int x2), (3, .int x3), (4, .int x4)] [] [] := by
  unfold F_X9_howMany_7 at hF
  refine gg_iload (pc := 7) K 4 dX9_howMany_7 rfl ?_
  refine gg_iload_n (pc := 9) K 1 dX9_howMany_9 rfl rfl ?_
  refine gg_icmp_gt (pc := 10) K 27 dX9_howMany_10 rfl hF (fun c1 hF => ?_) (fun c1 hF => ?_)
  · refine gg_iload_n (pc := 27) K 3 dX9_howMany_27 rfl rfl ?_
    cases hF
    exact (hQ _ _ _ rfl).2.1 _ _ rfl rfl rfl dX9_howMany_28
  · refine gg_iload_n (pc := 13) K 2 dX9_howMany_13 rfl rfl ?_
    refine gg_iload_n (pc := 14) K 0 dX9_howMany_14 rfl rfl ?_
    refine gg_imul (pc := 15) K dX9_howMany_15 ?_
    refine gg_topi hF (fun y2 ey2 hF => ?_)
    refine gg_istore_n (pc := 16) (lv' := [(0, .int x0), (1, .int x1), (2, .int y2), (3, .int x3), (4, .int x4)]) K [1, 2, 0, 3, 4] dX9_howMany_16 rfl (by decide) rfl ?_
    refine gg_iload_n (pc := 17) K 3 dX9_howMany_17 rfl rfl ?_
    refine gg_iload_n (pc := 18) K 2 dX9_howMany_18 rfl rfl ?_
    refine gg_iadd (pc := 19) K dX9_howMany_19 ?_
    refine gg_topi hF (fun y3 ey3 hF => ?_)
    refine gg_istore_n (pc := 20) (lv' := [(0, .int x0), (1, .int x1), (2, .int y2), (3, .int y3), (4, .int x4)]) K [1, 2, 3, 0, 4] dX9_howMany_20 rfl (by decide) rfl ?_
    refine gg_iinc (pc := 21) (v := (1 : Int32)) (lw := fun zz => [(0, .int x0), (1, .int x1), (2, .int y2), (3, .int y3), (4, .int zz)]) K 4 [1, 2, 3, 4, 0] dX9_howMany_21 rfl rfl (by decide) hF (fun _ => rfl) (fun y4 ey4 hF => ?_)
    refine gg_goto (pc := 24) K 7 dX9_howMany_24 rfl ?_
    exact hk7 y2 y3 y4 hF
def F_X9_howMany_7L  (x0 : Int32) (x1 : Int32) (fuel : Nat) (x2 : Int32) (x3 : Int32) (x4 : Int32) : Option (Int32) := lp3_ (fun k7 x2 x3 x4 => F_X9_howMany_7 k7 x0 x1 x2 x3 x4) fuel x2 x3 x4
theorem w_X9_howMany_7L {B : bu_T} {r : Int32}  (K : cx B cX9_howMany "SoundDesk$Words" rm_X9_howMany 5) (hQ : rt B cX9_howMany 5 (some .int) rm_X9_howMany (some (.int r)) (fun x => x = [])) {x0 : Int32} {x1 : Int32} : ∀ (fuel : Nat) (x2 : Int32) (x3 : Int32) (x4 : Int32), F_X9_howMany_7L  x0 x1 fuel x2 x3 x4 = some (r) → gg B 5 0 0 7 [(0, .int x0), (1, .int x1), (2, .int x2), (3, .int x3), (4, .int x4)] [] [] := by
  intro fuel
  induction fuel with
  | zero => intro x2 x3 x4 hF; exact absurd hF (by intro h; cases h)
  | succ fuel ih => intro x2 x3 x4 hF; exact w_X9_howMany_7 K hQ ih hF
def F_X9_howMany_0  (x0 : Int32) (x1 : Int32) : Option (Int32) := F_X9_howMany_7L  x0 x1 fu_ (1 : Int32) (1 : Int32) (1 : Int32)
set_option maxHeartbeats 4000000 in
theorem w_X9_howMany_0 {B : bu_T} {r : Int32}  (K : cx B cX9_howMany "SoundDesk$Words" rm_X9_howMany 5) (hQ : rt B cX9_howMany 5 (some .int) rm_X9_howMany (some (.int r)) (fun x => x = [])) {x0 : Int32} {x1 : Int32} (hF : F_X9_howMany_0  x0 x1 = some (r)) : gg B 5 0 0 0 [(0, .int x0), (1, .int x1)] [] [] := by
  unfold F_X9_howMany_0 at hF
  refine gg_iconst (v := (1 : Int32)) (pc := 0) K dX9_howMany_0 (by decide) ?_
  refine gg_istore_n (pc := 1) (lv' := [(0, .int x0), (1, .int x1), (2, .int (1 : Int32))]) K [1, 2, 0] dX9_howMany_1 rfl (by decide) rfl ?_
  refine gg_iconst (v := (1 : Int32)) (pc := 2) K dX9_howMany_2 (by decide) ?_
  refine gg_istore_n (pc := 3) (lv' := [(0, .int x0), (1, .int x1), (2, .int (1 : Int32)), (3, .int (1 : Int32))]) K [1, 2, 3, 0] dX9_howMany_3 rfl (by decide) rfl ?_
  refine gg_iconst (v := (1 : Int32)) (pc := 4) K dX9_howMany_4 (by decide) ?_
  refine gg_istore (pc := 5) (lv' := [(0, .int x0), (1, .int x1), (2, .int (1 : Int32)), (3, .int (1 : Int32)), (4, .int (1 : Int32))]) K [1, 2, 3, 4, 0] dX9_howMany_5 (by decide) rfl ?_
  exact w_X9_howMany_7L K hQ  _ (1 : Int32) (1 : Int32) (1 : Int32) hF
def F_X9_howMany (x0 : Int32) (x1 : Int32)  : Option (Int32) := F_X9_howMany_0 x0 x1
theorem n_X9_howMany : yX9_howMany.cls ≠ "java/lang/invoke/MethodHandle" ∧ yX9_howMany.cls ≠ "java/lang/invoke/VarHandle" ∧ (parseMethodDescriptor yX9_howMany.desc).map (fun d => d.parameters.length) = some 2 := by decide +kernel
theorem c_X9_howMany (l : Launch) (E : en_T) (x0 : Int32) (x1 : Int32)  {r : Int32}  (hF : F_X9_howMany x0 x1  = some (r)) : ct l yX9_howMany cX9_howMany 5 (some .int) rm_X9_howMany E [.int x0, .int x1] [] (some (.int r)) (fun x => x = []) := by
  refine ct_of (by decide +kernel) (Nat.le_of_ble_eq_true rfl) (fun B hl hE _ K hQ => ?_)
  subst hl; subst hE
  refine gg_sub (lv' := [(0, .int x0), (1, .int x1)]) [0, 1] rfl ?_
  exact w_X9_howMany_0 K hQ hF
theorem dX9_next_0 : decode cX9_next 0 = .ok (.iconst 0, 1) := by decide +kernel
theorem dX9_next_1 : decode cX9_next 1 = .ok (.istore_n 3, 1) := by decide +kernel
theorem dX9_next_2 : decode cX9_next 2 = .ok (.iconst 0, 1) := by decide +kernel
theorem dX9_next_3 : decode cX9_next 3 = .ok (.istore 4, 2) := by decide +kernel
theorem dX9_next_5 : decode cX9_next 5 = .ok (.iload 4, 2) := by decide +kernel
theorem dX9_next_7 : decode cX9_next 7 = .ok (.bipush 16, 2) := by decide +kernel
theorem dX9_next_9 : decode cX9_next 9 = .ok (.if_icmp .ge 43, 3) := by decide +kernel
theorem dX9_next_12 : decode cX9_next 12 = .ok (.lload_n 0, 1) := by decide +kernel
theorem dX9_next_13 : decode cX9_next 13 = .ok (.iload_n 3, 1) := by decide +kernel
theorem dX9_next_14 : decode cX9_next 14 = .ok (.lushr, 1) := by decide +kernel
theorem dX9_next_15 : decode cX9_next 15 = .ok (.lconst 1, 1) := by decide +kernel
theorem dX9_next_16 : decode cX9_next 16 = .ok (.lcmp, 1) := by decide +kernel
theorem dX9_next_17 : decode cX9_next 17 = .ok (.ifCond .le 35, 3) := by decide +kernel
theorem dX9_next_20 : decode cX9_next 20 = .ok (.lload_n 0, 1) := by decide +kernel
theorem dX9_next_21 : decode cX9_next 21 = .ok (.iload_n 3, 1) := by decide +kernel
theorem dX9_next_22 : decode cX9_next 22 = .ok (.lushr, 1) := by decide +kernel
theorem dX9_next_23 : decode cX9_next 23 = .ok (.lstore 5, 2) := by decide +kernel
theorem dX9_next_25 : decode cX9_next 25 = .ok (.lload 5, 2) := by decide +kernel
theorem dX9_next_27 : decode cX9_next 27 = .ok (.invokestatic 21, 3) := by decide +kernel
theorem dX9_next_30 : decode cX9_next 30 = .ok (.iconst 1, 1) := by decide +kernel
theorem dX9_next_31 : decode cX9_next 31 = .ok (.iadd, 1) := by decide +kernel
theorem dX9_next_32 : decode cX9_next 32 = .ok (.iload_n 2, 1) := by decide +kernel
theorem dX9_next_33 : decode cX9_next 33 = .ok (.if_icmp .ge 10, 3) := by decide +kernel
theorem dX9_next_36 : decode cX9_next 36 = .ok (.lload 5, 2) := by decide +kernel
theorem dX9_next_38 : decode cX9_next 38 = .ok (.lconst 1, 1) := by decide +kernel
theorem dX9_next_39 : decode cX9_next 39 = .ok (.ladd, 1) := by decide +kernel
theorem dX9_next_40 : decode cX9_next 40 = .ok (.iload_n 3, 1) := by decide +kernel
theorem dX9_next_41 : decode cX9_next 41 = .ok (.lshl, 1) := by decide +kernel
theorem dX9_next_42 : decode cX9_next 42 = .ok (.lreturn, 1) := by decide +kernel
theorem dX9_next_43 : decode cX9_next 43 = .ok (.iinc 3 3, 3) := by decide +kernel
theorem dX9_next_46 : decode cX9_next 46 = .ok (.iinc 4 1, 3) := by decide +kernel
theorem dX9_next_49 : decode cX9_next 49 = .ok (.goto (-44), 3) := by decide +kernel
theorem dX9_next_52 : decode cX9_next 52 = .ok (.lconst 1, 1) := by decide +kernel
theorem dX9_next_53 : decode cX9_next 53 = .ok (.iload_n 3, 1) := by decide +kernel
theorem dX9_next_54 : decode cX9_next 54 = .ok (.iconst 3, 1) := by decide +kernel
theorem dX9_next_55 : decode cX9_next 55 = .ok (.iadd, 1) := by decide +kernel
theorem dX9_next_56 : decode cX9_next 56 = .ok (.lshl, 1) := by decide +kernel
theorem dX9_next_57 : decode cX9_next 57 = .ok (.lreturn, 1) := by decide +kernel
def rm_X9_next : Room := { frames := 1, cells := 0, slots := 0, locals := 21 }
def F_X9_next_52  (x3 : Int32) : Option (Int64) := some ((sl_ (1 : Int64) (x3 + (3 : Int32))))
set_option maxHeartbeats 4000000 in
theorem w_X9_next_52 {B : bu_T} {r : Int64}  (K : cx B cX9_next "SoundDesk$Words" rm_X9_next 7) (hQ : rt B cX9_next 7 (some .long) rm_X9_next (some (.long r)) (fun x => x = [])) {x3 : Int32} (hF : F_X9_next_52  x3 = some (r)) : gg B 7 0 0 52 [(3, .int x3)] [] [] := by
  unfold F_X9_next_52 at hF
  refine gg_lconst (v := (1 : Int64)) (pc := 52) K dX9_next_52 (by decide) ?_
  refine gg_iload_n (pc := 53) K 0 dX9_next_53 rfl rfl ?_
  refine gg_iconst (v := (3 : Int32)) (pc := 54) K dX9_next_54 (by decide) ?_
  refine gg_iadd (pc := 55) K dX9_next_55 ?_
  refine gg_lshl (pc := 56) K dX9_next_56 ?_
  cases hF
  exact (hQ _ _ _ rfl).2.2 _ rfl rfl dX9_next_57
def F_X9_next_5 (k5 : Int32 → Int32 → Option (Int64)) (x0 : Int64) (x2 : Int32) (x3 : Int32) (x4 : Int32) : Option (Int64) := if (16 : Int32) ≤ x4 then (F_X9_next_52  x3) else (if (ul_ x0 x3) ≤ (1 : Int64) then (F_X9_next_52  x3) else (lt_ (ul_ x0 x3) (fun y3 => bn1_ (F_X9_last y3) (fun y4 => if x2 ≤ (y4 + (1 : Int32)) then (lt_ (x3 + (3 : Int32)) (fun y7 => lt_ (x4 + (1 : Int32)) (fun y8 => k5 y7 y8))) else (some ((sl_ (y3 + (1 : Int64)) x3)))))))
set_option maxHeartbeats 4000000 in
theorem w_X9_next_5 {B : bu_T} {r : Int64}  (K : cx B cX9_next "SoundDesk$Words" rm_X9_next 7) (hQ : rt B cX9_next 7 (some .long) rm_X9_next (some (.long r)) (fun x => x = [])) {x0 : Int64} {x2 : Int32} {x3 : Int32} {x4 : Int32} {k5 : Int32 → Int32 → Option (Int64)} (hk5 : ∀ (x3 : Int32) (x4 : Int32), k5 x3 x4 = some (r) → gg B 7 0 0 5 [(0, .long x0), (2, .int x2), (3, .int x3), (4, .int x4)] [] []) (hF : F_X9_next_5 k5 x0 x2 x3 x4 = some (r)) : gg B 7 0 0 5 [(0, .long x0), (2, .int x2), (3, .int x3), (4, .int x4)] [] [] := by
  unfold F_X9_next_5 at hF
  refine gg_iload (pc := 5) K 3 dX9_next_5 rfl ?_
  refine gg_bipush (v := (16 : Int32)) (pc := 7) K dX9_next_7 (by decide) ?_
  refine gg_icmp_ge (pc := 9) K 52 dX9_next_9 rfl hF (fun c1 hF => ?_) (fun c1 hF => ?_)
  · refine gg_sub [2] rfl ?_
    exact w_X9_next_52 K hQ  hF
  · refine gg_lload_n (pc := 12) K 0 dX9_next_12 rfl rfl ?_
    refine gg_iload_n (pc := 13) K 2 dX9_next_13 rfl rfl ?_
    refine gg_lushr (pc := 14) K dX9_next_14 ?_
    refine gg_lconst (v := (1 : Int64)) (pc := 15) K dX9_next_15 (by decide) ?_
    refine gg_lcmp_le (pc := 16) K 52 dX9_next_16 dX9_next_17 rfl hF (fun c2 hF => ?_) (fun c2 hF => ?_)
    · refine gg_sub [2] rfl ?_
      exact w_X9_next_52 K hQ  hF
    · refine gg_lload_n (pc := 20) K 0 dX9_next_20 rfl rfl ?_
      refine gg_iload_n (pc := 21) K 2 dX9_next_21 rfl rfl ?_
      refine gg_lushr (pc := 22) K dX9_next_22 ?_
      refine gg_topl hF (fun y3 ey3 hF => ?_)
      refine gg_lstore (pc := 23) (lv' := [(0, .long x0), (2, .int x2), (3, .int x3), (4, .int x4), (5, .long y3)]) K [1, 2, 3, 4, 0] dX9_next_23 (by decide) rfl ?_
      refine gg_lload (pc := 25) K 4 dX9_next_25 rfl ?_
      obtain ⟨y4, hc5, hF⟩ := bn1_some hF
      refine gg_dS (pc := 27) (st' := [.int y4]) (rest := []) (w' := []) K (c_X9_last (bu_l B) (bu_E B) y3 hc5) ⟨rfl, rfl⟩ q_3_32 q_3_13 q_1_13 q_3_14 n_X9_last ⟨(Nat.le_of_ble_eq_true rfl), (Nat.le_of_ble_eq_true rfl)⟩ [] [] rfl rfl rfl rfl rfl rfl (by decide) rfl rfl rfl ⟨Nat.zero_le _, Nat.zero_le _⟩ (Nat.le_of_ble_eq_true rfl) dX9_next_27 ?_
      refine gg_iconst (v := (1 : Int32)) (pc := 30) K dX9_next_30 (by decide) ?_
      refine gg_iadd (pc := 31) K dX9_next_31 ?_
      refine gg_iload_n (pc := 32) K 1 dX9_next_32 rfl rfl ?_
      refine gg_icmp_ge (pc := 33) K 43 dX9_next_33 rfl hF (fun c6 hF => ?_) (fun c6 hF => ?_)
      · refine gg_iinc (pc := 43) (v := (3 : Int32)) (lw := fun zz => [(0, .long x0), (2, .int x2), (3, .int zz), (4, .int x4), (5, .long y3)]) K 2 [1, 2, 0, 3, 4] dX9_next_43 rfl rfl (by decide) hF (fun _ => rfl) (fun y7 ey7 hF => ?_)
        refine gg_iinc (pc := 46) (v := (1 : Int32)) (lw := fun zz => [(0, .long x0), (2, .int x2), (3, .int y7), (4, .int zz), (5, .long y3)]) K 3 [1, 2, 3, 0, 4] dX9_next_46 rfl rfl (by decide) hF (fun _ => rfl) (fun y8 ey8 hF => ?_)
        refine gg_goto (pc := 49) K 5 dX9_next_49 rfl ?_
        refine gg_sub [0, 1, 2, 3] rfl ?_
        exact hk5 y7 y8 hF
      · refine gg_lload (pc := 36) K 4 dX9_next_36 rfl ?_
        refine gg_lconst (v := (1 : Int64)) (pc := 38) K dX9_next_38 (by decide) ?_
        refine gg_ladd (pc := 39) K dX9_next_39 ?_
        refine gg_iload_n (pc := 40) K 2 dX9_next_40 rfl rfl ?_
        refine gg_lshl (pc := 41) K dX9_next_41 ?_
        cases hF
        exact (hQ _ _ _ rfl).2.2 _ rfl rfl dX9_next_42
def F_X9_next_5L  (x0 : Int64) (x2 : Int32) (fuel : Nat) (x3 : Int32) (x4 : Int32) : Option (Int64) := lp2_ (fun k5 x3 x4 => F_X9_next_5 k5 x0 x2 x3 x4) fuel x3 x4
theorem w_X9_next_5L {B : bu_T} {r : Int64}  (K : cx B cX9_next "SoundDesk$Words" rm_X9_next 7) (hQ : rt B cX9_next 7 (some .long) rm_X9_next (some (.long r)) (fun x => x = [])) {x0 : Int64} {x2 : Int32} : ∀ (fuel : Nat) (x3 : Int32) (x4 : Int32), F_X9_next_5L  x0 x2 fuel x3 x4 = some (r) → gg B 7 0 0 5 [(0, .long x0), (2, .int x2), (3, .int x3), (4, .int x4)] [] [] := by
  intro fuel
  induction fuel with
  | zero => intro x3 x4 hF; exact absurd hF (by intro h; cases h)
  | succ fuel ih => intro x3 x4 hF; exact w_X9_next_5 K hQ ih hF
def F_X9_next_0  (x0 : Int64) (x2 : Int32) : Option (Int64) := F_X9_next_5L  x0 x2 fu_ (0 : Int32) (0 : Int32)
set_option maxHeartbeats 4000000 in
theorem w_X9_next_0 {B : bu_T} {r : Int64}  (K : cx B cX9_next "SoundDesk$Words" rm_X9_next 7) (hQ : rt B cX9_next 7 (some .long) rm_X9_next (some (.long r)) (fun x => x = [])) {x0 : Int64} {x2 : Int32} (hF : F_X9_next_0  x0 x2 = some (r)) : gg B 7 0 0 0 [(0, .long x0), (2, .int x2)] [] [] := by
  unfold F_X9_next_0 at hF
  refine gg_iconst (v := (0 : Int32)) (pc := 0) K dX9_next_0 (by decide) ?_
  refine gg_istore_n (pc := 1) (lv' := [(0, .long x0), (2, .int x2), (3, .int (0 : Int32))]) K [1, 2, 0] dX9_next_1 rfl (by decide) rfl ?_
  refine gg_iconst (v := (0 : Int32)) (pc := 2) K dX9_next_2 (by decide) ?_
  refine gg_istore (pc := 3) (lv' := [(0, .long x0), (2, .int x2), (3, .int (0 : Int32)), (4, .int (0 : Int32))]) K [1, 2, 3, 0] dX9_next_3 (by decide) rfl ?_
  exact w_X9_next_5L K hQ  _ (0 : Int32) (0 : Int32) hF
def F_X9_next (x0 : Int64) (x2 : Int32)  : Option (Int64) := F_X9_next_0 x0 x2
theorem n_X9_next : yX9_next.cls ≠ "java/lang/invoke/MethodHandle" ∧ yX9_next.cls ≠ "java/lang/invoke/VarHandle" ∧ (parseMethodDescriptor yX9_next.desc).map (fun d => d.parameters.length) = some 2 := by decide +kernel
theorem c_X9_next (l : Launch) (E : en_T) (x0 : Int64) (x2 : Int32)  {r : Int64}  (hF : F_X9_next x0 x2  = some (r)) : ct l yX9_next cX9_next 7 (some .long) rm_X9_next E [.long x0, .int x2] [] (some (.long r)) (fun x => x = []) := by
  refine ct_of (by decide +kernel) (Nat.le_of_ble_eq_true rfl) (fun B hl hE _ K hQ => ?_)
  subst hl; subst hE
  refine gg_sub (lv' := [(0, .long x0), (2, .int x2)]) [0, 1] rfl ?_
  exact w_X9_next_0 K hQ hF
theorem dJ7_fill_d0a16_0 : decode cJ7_fill_d0a16 0 = .ok (.iconst 0, 1) := by decide +kernel
theorem dJ7_fill_d0a16_1 : decode cJ7_fill_d0a16 1 = .ok (.istore_n 3, 1) := by decide +kernel
theorem dJ7_fill_d0a16_2 : decode cJ7_fill_d0a16 2 = .ok (.aload_n 0, 1) := by decide +kernel
theorem dJ7_fill_d0a16_3 : decode cJ7_fill_d0a16 3 = .ok (.arraylength, 1) := by decide +kernel
theorem dJ7_fill_d0a16_4 : decode cJ7_fill_d0a16 4 = .ok (.istore 4, 2) := by decide +kernel
theorem dJ7_fill_d0a16_6 : decode cJ7_fill_d0a16 6 = .ok (.iload_n 3, 1) := by decide +kernel
theorem dJ7_fill_d0a16_7 : decode cJ7_fill_d0a16 7 = .ok (.iload 4, 2) := by decide +kernel
theorem dJ7_fill_d0a16_9 : decode cJ7_fill_d0a16 9 = .ok (.if_icmp .ge 13, 3) := by decide +kernel
theorem dJ7_fill_d0a16_12 : decode cJ7_fill_d0a16 12 = .ok (.aload_n 0, 1) := by decide +kernel
theorem dJ7_fill_d0a16_13 : decode cJ7_fill_d0a16 13 = .ok (.iload_n 3, 1) := by decide +kernel
theorem dJ7_fill_d0a16_14 : decode cJ7_fill_d0a16 14 = .ok (.lload_n 1, 1) := by decide +kernel
theorem dJ7_fill_d0a16_15 : decode cJ7_fill_d0a16 15 = .ok (.lastore, 1) := by decide +kernel
theorem dJ7_fill_d0a16_16 : decode cJ7_fill_d0a16 16 = .ok (.iinc 3 1, 3) := by decide +kernel
theorem dJ7_fill_d0a16_19 : decode cJ7_fill_d0a16 19 = .ok (.goto (-13), 3) := by decide +kernel
theorem dJ7_fill_d0a16_22 : decode cJ7_fill_d0a16 22 = .ok (.return_, 1) := by decide +kernel
def rm_J7_fill_d0a16 : Room := { frames := 0, cells := 0, slots := 0, locals := 0 }
def W_J7_fill_d0a16 (E : en_T) (a_p0 : Nat) (v_p0 : (Nat → Int64)) : va_W := [(a_p0, .inl (en_J E, 8192, .inr (.inl v_p0)))]
def F_J7_fill_d0a16_6 (k6 : Int32 → (Nat → Int64) → Option ((Nat → Int64))) (x1 : Int64) (x3 : Int32) (x4 : Int32) (v_p0 : (Nat → Int64)) : Option ((Nat → Int64)) := if x4 ≤ x3 then (some (v_p0)) else (ck_ x3 8192 (lt_ (vp_updL v_p0 (Int32.toNatClampNeg x3) x1) (fun f2 => lt_ (x3 + (1 : Int32)) (fun y3 => k6 y3 f2))))
set_option maxHeartbeats 4000000 in
theorem w_J7_fill_d0a16_6 {B : bu_T} {a_p0 : Nat} {v_p0 : (Nat → Int64)} {o_p0 : (Nat → Int64)} (K : cx B cJ7_fill_d0a16 "java/util/Arrays" rm_J7_fill_d0a16 5) (hQ : rt B cJ7_fill_d0a16 5 none rm_J7_fill_d0a16 none (fun x => x = (W_J7_fill_d0a16 (bu_E B) a_p0 o_p0))) {x1 : Int64} {x3 : Int32} {x4 : Int32} {k6 : Int32 → (Nat → Int64) → Option ((Nat → Int64))} (hk6 : ∀ (x3 : Int32) (v_p0 : (Nat → Int64)), k6 x3 v_p0 = some (o_p0) → gg B 5 0 0 6 [(0, .ref a_p0), (1, .long x1), (3, .int x3), (4, .int x4)] [] (W_J7_fill_d0a16 (bu_E B) a_p0 v_p0)) (hF : F_J7_fill_d0a16_6 k6 x1 x3 x4 v_p0 = some (o_p0)) : gg B 5 0 0 6 [(0, .ref a_p0), (1, .long x1), (3, .int x3), (4, .int x4)] [] (W_J7_fill_d0a16 (bu_E B) a_p0 v_p0) := by
  unfold F_J7_fill_d0a16_6 at hF
  refine gg_iload_n (pc := 6) K 2 dJ7_fill_d0a16_6 rfl rfl ?_
  refine gg_iload (pc := 7) K 3 dJ7_fill_d0a16_7 rfl ?_
  refine gg_icmp_ge (pc := 9) K 22 dJ7_fill_d0a16_9 rfl hF (fun c1 hF => ?_) (fun c1 hF => ?_)
  · cases hF
    exact (hQ _ _ _ rfl).1 rfl rfl dJ7_fill_d0a16_22
  · refine gg_aload_n (pc := 12) K 0 dJ7_fill_d0a16_12 rfl rfl ?_
    refine gg_iload_n (pc := 13) K 2 dJ7_fill_d0a16_13 rfl rfl ?_
    refine gg_lload_n (pc := 14) K 1 dJ7_fill_d0a16_14 rfl rfl ?_
    refine gg_last (pc := 15) (wf := fun zz => (W_J7_fill_d0a16 (bu_E B) a_p0 zz)) K 0 rfl dJ7_fill_d0a16_15 hF (fun _ => rfl) (fun f2 ef2 hF => ?_)
    refine gg_iinc (pc := 16) (v := (1 : Int32)) (lw := fun zz => [(0, .ref a_p0), (1, .long x1), (3, .int zz), (4, .int x4)]) K 2 [1, 2, 0, 3] dJ7_fill_d0a16_16 rfl rfl (by decide) hF (fun _ => rfl) (fun y3 ey3 hF => ?_)
    refine gg_goto (pc := 19) K 6 dJ7_fill_d0a16_19 rfl ?_
    exact hk6 y3 f2 hF
def F_J7_fill_d0a16_6L  (x1 : Int64) (x4 : Int32) (fuel : Nat) (x3 : Int32) (v_p0 : (Nat → Int64)) : Option ((Nat → Int64)) := lp2_ (fun k6 x3 v_p0 => F_J7_fill_d0a16_6 k6 x1 x3 x4 v_p0) fuel x3 v_p0
theorem w_J7_fill_d0a16_6L {B : bu_T} {a_p0 : Nat} {o_p0 : (Nat → Int64)} (K : cx B cJ7_fill_d0a16 "java/util/Arrays" rm_J7_fill_d0a16 5) (hQ : rt B cJ7_fill_d0a16 5 none rm_J7_fill_d0a16 none (fun x => x = (W_J7_fill_d0a16 (bu_E B) a_p0 o_p0))) {x1 : Int64} {x4 : Int32} : ∀ (fuel : Nat) (x3 : Int32) (v_p0 : (Nat → Int64)), F_J7_fill_d0a16_6L  x1 x4 fuel x3 v_p0 = some (o_p0) → gg B 5 0 0 6 [(0, .ref a_p0), (1, .long x1), (3, .int x3), (4, .int x4)] [] (W_J7_fill_d0a16 (bu_E B) a_p0 v_p0) := by
  intro fuel
  induction fuel with
  | zero => intro x3 v_p0 hF; exact absurd hF (by intro h; cases h)
  | succ fuel ih => intro x3 v_p0 hF; exact w_J7_fill_d0a16_6 K hQ ih hF
def F_J7_fill_d0a16_0  (x1 : Int64) (v_p0 : (Nat → Int64)) : Option ((Nat → Int64)) := F_J7_fill_d0a16_6L  x1 (8192 : Int32) fu_ (0 : Int32) v_p0
set_option maxHeartbeats 4000000 in
theorem w_J7_fill_d0a16_0 {B : bu_T} {a_p0 : Nat} {v_p0 : (Nat → Int64)} {o_p0 : (Nat → Int64)} (K : cx B cJ7_fill_d0a16 "java/util/Arrays" rm_J7_fill_d0a16 5) (hQ : rt B cJ7_fill_d0a16 5 none rm_J7_fill_d0a16 none (fun x => x = (W_J7_fill_d0a16 (bu_E B) a_p0 o_p0))) {x1 : Int64} (hF : F_J7_fill_d0a16_0  x1 v_p0 = some (o_p0)) : gg B 5 0 0 0 [(0, .ref a_p0), (1, .long x1)] [] (W_J7_fill_d0a16 (bu_E B) a_p0 v_p0) := by
  unfold F_J7_fill_d0a16_0 at hF
  refine gg_iconst (v := (0 : Int32)) (pc := 0) K dJ7_fill_d0a16_0 (by decide) ?_
  refine gg_istore_n (pc := 1) (lv' := [(0, .ref a_p0), (1, .long x1), (3, .int (0 : Int32))]) K [1, 2, 0] dJ7_fill_d0a16_1 rfl (by decide) rfl ?_
  refine gg_aload_n (pc := 2) K 0 dJ7_fill_d0a16_2 rfl rfl ?_
  refine gg_alen (v := (8192 : Int32)) (pc := 3) K 0 1 rfl rfl rfl dJ7_fill_d0a16_3 ?_
  refine gg_istore (pc := 4) (lv' := [(0, .ref a_p0), (1, .long x1), (3, .int (0 : Int32)), (4, .int (8192 : Int32))]) K [1, 2, 3, 0] dJ7_fill_d0a16_4 (by decide) rfl ?_
  exact w_J7_fill_d0a16_6L K hQ  _ (0 : Int32) v_p0 hF
def F_J7_fill_d0a16 (x1 : Int64) (v_p0 : (Nat → Int64)) : Option ((Nat → Int64)) := F_J7_fill_d0a16_0 x1 v_p0
theorem n_J7_fill_d0a16 : yJ7_fill_d0a16.cls ≠ "java/lang/invoke/MethodHandle" ∧ yJ7_fill_d0a16.cls ≠ "java/lang/invoke/VarHandle" ∧ (parseMethodDescriptor yJ7_fill_d0a16.desc).map (fun d => d.parameters.length) = some 2 := by decide +kernel
theorem c_J7_fill_d0a16 (l : Launch) (E : en_T) (a_p0 : Nat) (x1 : Int64) (v_p0 : (Nat → Int64)) {o_p0 : (Nat → Int64)} (hF : F_J7_fill_d0a16 x1 v_p0 = some (o_p0)) : ct l yJ7_fill_d0a16 cJ7_fill_d0a16 5 none rm_J7_fill_d0a16 E [.ref a_p0, .long x1] (W_J7_fill_d0a16 E a_p0 v_p0) none (fun x => x = (W_J7_fill_d0a16 E a_p0 o_p0)) := by
  refine ct_ofF te_fi (Nat.le_of_ble_eq_true rfl) (fun B hl hE _ K hQ => ?_)
  subst hl; subst hE
  refine gg_sub (lv' := [(0, .ref a_p0), (1, .long x1)]) [0, 1] rfl ?_
  exact w_J7_fill_d0a16_0 K hQ hF
theorem dJ6_bitCount_0f7a4_0 : decode cJ6_bitCount_0f7a4 0 = .ok (.iload_n 0, 1) := by decide +kernel
theorem dJ6_bitCount_0f7a4_1 : decode cJ6_bitCount_0f7a4 1 = .ok (.iload_n 0, 1) := by decide +kernel
theorem dJ6_bitCount_0f7a4_2 : decode cJ6_bitCount_0f7a4 2 = .ok (.iconst 1, 1) := by decide +kernel
theorem dJ6_bitCount_0f7a4_3 : decode cJ6_bitCount_0f7a4 3 = .ok (.iushr, 1) := by decide +kernel
theorem dJ6_bitCount_0f7a4_4 : decode cJ6_bitCount_0f7a4 4 = .ok (.ldc_w 265, 3) := by decide +kernel
theorem dJ6_bitCount_0f7a4_7 : decode cJ6_bitCount_0f7a4 7 = .ok (.iand, 1) := by decide +kernel
theorem dJ6_bitCount_0f7a4_8 : decode cJ6_bitCount_0f7a4 8 = .ok (.isub, 1) := by decide +kernel
theorem dJ6_bitCount_0f7a4_9 : decode cJ6_bitCount_0f7a4 9 = .ok (.istore_n 0, 1) := by decide +kernel
theorem dJ6_bitCount_0f7a4_10 : decode cJ6_bitCount_0f7a4 10 = .ok (.iload_n 0, 1) := by decide +kernel
theorem dJ6_bitCount_0f7a4_11 : decode cJ6_bitCount_0f7a4 11 = .ok (.ldc_w 266, 3) := by decide +kernel
theorem dJ6_bitCount_0f7a4_14 : decode cJ6_bitCount_0f7a4 14 = .ok (.iand, 1) := by decide +kernel
theorem dJ6_bitCount_0f7a4_15 : decode cJ6_bitCount_0f7a4 15 = .ok (.iload_n 0, 1) := by decide +kernel
theorem dJ6_bitCount_0f7a4_16 : decode cJ6_bitCount_0f7a4 16 = .ok (.iconst 2, 1) := by decide +kernel
theorem dJ6_bitCount_0f7a4_17 : decode cJ6_bitCount_0f7a4 17 = .ok (.iushr, 1) := by decide +kernel
theorem dJ6_bitCount_0f7a4_18 : decode cJ6_bitCount_0f7a4 18 = .ok (.ldc_w 266, 3) := by decide +kernel
theorem dJ6_bitCount_0f7a4_21 : decode cJ6_bitCount_0f7a4 21 = .ok (.iand, 1) := by decide +kernel
theorem dJ6_bitCount_0f7a4_22 : decode cJ6_bitCount_0f7a4 22 = .ok (.iadd, 1) := by decide +kernel
theorem dJ6_bitCount_0f7a4_23 : decode cJ6_bitCount_0f7a4 23 = .ok (.istore_n 0, 1) := by decide +kernel
theorem dJ6_bitCount_0f7a4_24 : decode cJ6_bitCount_0f7a4 24 = .ok (.iload_n 0, 1) := by decide +kernel
theorem dJ6_bitCount_0f7a4_25 : decode cJ6_bitCount_0f7a4 25 = .ok (.iload_n 0, 1) := by decide +kernel
theorem dJ6_bitCount_0f7a4_26 : decode cJ6_bitCount_0f7a4 26 = .ok (.iconst 4, 1) := by decide +kernel
theorem dJ6_bitCount_0f7a4_27 : decode cJ6_bitCount_0f7a4 27 = .ok (.iushr, 1) := by decide +kernel
theorem dJ6_bitCount_0f7a4_28 : decode cJ6_bitCount_0f7a4 28 = .ok (.iadd, 1) := by decide +kernel
theorem dJ6_bitCount_0f7a4_29 : decode cJ6_bitCount_0f7a4 29 = .ok (.ldc_w 267, 3) := by decide +kernel
theorem dJ6_bitCount_0f7a4_32 : decode cJ6_bitCount_0f7a4 32 = .ok (.iand, 1) := by decide +kernel
theorem dJ6_bitCount_0f7a4_33 : decode cJ6_bitCount_0f7a4 33 = .ok (.istore_n 0, 1) := by decide +kernel
theorem dJ6_bitCount_0f7a4_34 : decode cJ6_bitCount_0f7a4 34 = .ok (.iload_n 0, 1) := by decide +kernel
theorem dJ6_bitCount_0f7a4_35 : decode cJ6_bitCount_0f7a4 35 = .ok (.iload_n 0, 1) := by decide +kernel
theorem dJ6_bitCount_0f7a4_36 : decode cJ6_bitCount_0f7a4 36 = .ok (.bipush 8, 2) := by decide +kernel
theorem dJ6_bitCount_0f7a4_38 : decode cJ6_bitCount_0f7a4 38 = .ok (.iushr, 1) := by decide +kernel
theorem dJ6_bitCount_0f7a4_39 : decode cJ6_bitCount_0f7a4 39 = .ok (.iadd, 1) := by decide +kernel
theorem dJ6_bitCount_0f7a4_40 : decode cJ6_bitCount_0f7a4 40 = .ok (.istore_n 0, 1) := by decide +kernel
theorem dJ6_bitCount_0f7a4_41 : decode cJ6_bitCount_0f7a4 41 = .ok (.iload_n 0, 1) := by decide +kernel
theorem dJ6_bitCount_0f7a4_42 : decode cJ6_bitCount_0f7a4 42 = .ok (.iload_n 0, 1) := by decide +kernel
theorem dJ6_bitCount_0f7a4_43 : decode cJ6_bitCount_0f7a4 43 = .ok (.bipush 16, 2) := by decide +kernel
theorem dJ6_bitCount_0f7a4_45 : decode cJ6_bitCount_0f7a4 45 = .ok (.iushr, 1) := by decide +kernel
theorem dJ6_bitCount_0f7a4_46 : decode cJ6_bitCount_0f7a4 46 = .ok (.iadd, 1) := by decide +kernel
theorem dJ6_bitCount_0f7a4_47 : decode cJ6_bitCount_0f7a4 47 = .ok (.istore_n 0, 1) := by decide +kernel
theorem dJ6_bitCount_0f7a4_48 : decode cJ6_bitCount_0f7a4 48 = .ok (.iload_n 0, 1) := by decide +kernel
theorem dJ6_bitCount_0f7a4_49 : decode cJ6_bitCount_0f7a4 49 = .ok (.bipush 63, 2) := by decide +kernel
theorem dJ6_bitCount_0f7a4_51 : decode cJ6_bitCount_0f7a4 51 = .ok (.iand, 1) := by decide +kernel
theorem dJ6_bitCount_0f7a4_52 : decode cJ6_bitCount_0f7a4 52 = .ok (.ireturn, 1) := by decide +kernel
def rm_J6_bitCount_0f7a4 : Room := { frames := 0, cells := 0, slots := 0, locals := 0 }
def F_J6_bitCount_0f7a4_0  (x0 : Int32) : Option (Int32) := lt_ (x0 - ((us_ x0 (1 : Int32)) &&& (1431655765 : Int32))) (fun y1 => lt_ ((y1 &&& (858993459 : Int32)) + ((us_ y1 (2 : Int32)) &&& (858993459 : Int32))) (fun y2 => lt_ ((y2 + (us_ y2 (4 : Int32))) &&& (252645135 : Int32)) (fun y3 => lt_ (y3 + (us_ y3 (8 : Int32))) (fun y4 => lt_ (y4 + (us_ y4 (16 : Int32))) (fun y5 => some ((y5 &&& (63 : Int32))))))))
set_option maxHeartbeats 4000000 in
theorem w_J6_bitCount_0f7a4_0 {B : bu_T} {r : Int32}  (K : cx B cJ6_bitCount_0f7a4 "java/lang/Integer" rm_J6_bitCount_0f7a4 1) (hQ : rt B cJ6_bitCount_0f7a4 1 (some .int) rm_J6_bitCount_0f7a4 (some (.int r)) (fun x => x = [])) {x0 : Int32} (hF : F_J6_bitCount_0f7a4_0  x0 = some (r)) : gg B 1 0 0 0 [(0, .int x0)] [] [] := by
  unfold F_J6_bitCount_0f7a4_0 at hF
  refine gg_iload_n (pc := 0) K 0 dJ6_bitCount_0f7a4_0 rfl rfl ?_
  refine gg_iload_n (pc := 1) K 0 dJ6_bitCount_0f7a4_1 rfl rfl ?_
  refine gg_iconst (v := (1 : Int32)) (pc := 2) K dJ6_bitCount_0f7a4_2 (by decide) ?_
  refine gg_iushr (pc := 3) K dJ6_bitCount_0f7a4_3 ?_
  refine gg_ldc_w (v := (1431655765 : Int32)) (pc := 4) K q_3_182 dJ6_bitCount_0f7a4_4 ?_
  refine gg_iand (pc := 7) K dJ6_bitCount_0f7a4_7 ?_
  refine gg_isub (pc := 8) K dJ6_bitCount_0f7a4_8 ?_
  refine gg_topi hF (fun y1 ey1 hF => ?_)
  refine gg_istore_n (pc := 9) (lv' := [(0, .int y1)]) K [0] dJ6_bitCount_0f7a4_9 rfl (by decide) rfl ?_
  refine gg_iload_n (pc := 10) K 0 dJ6_bitCount_0f7a4_10 rfl rfl ?_
  refine gg_ldc_w (v := (858993459 : Int32)) (pc := 11) K q_3_183 dJ6_bitCount_0f7a4_11 ?_
  refine gg_iand (pc := 14) K dJ6_bitCount_0f7a4_14 ?_
  refine gg_iload_n (pc := 15) K 0 dJ6_bitCount_0f7a4_15 rfl rfl ?_
  refine gg_iconst (v := (2 : Int32)) (pc := 16) K dJ6_bitCount_0f7a4_16 (by decide) ?_
  refine gg_iushr (pc := 17) K dJ6_bitCount_0f7a4_17 ?_
  refine gg_ldc_w (v := (858993459 : Int32)) (pc := 18) K q_3_183 dJ6_bitCount_0f7a4_18 ?_
  refine gg_iand (pc := 21) K dJ6_bitCount_0f7a4_21 ?_
  refine gg_iadd (pc := 22) K dJ6_bitCount_0f7a4_22 ?_
  refine gg_topi hF (fun y2 ey2 hF => ?_)
  refine gg_istore_n (pc := 23) (lv' := [(0, .int y2)]) K [0] dJ6_bitCount_0f7a4_23 rfl (by decide) rfl ?_
  refine gg_iload_n (pc := 24) K 0 dJ6_bitCount_0f7a4_24 rfl rfl ?_
  refine gg_iload_n (pc := 25) K 0 dJ6_bitCount_0f7a4_25 rfl rfl ?_
  refine gg_iconst (v := (4 : Int32)) (pc := 26) K dJ6_bitCount_0f7a4_26 (by decide) ?_
  refine gg_iushr (pc := 27) K dJ6_bitCount_0f7a4_27 ?_
  refine gg_iadd (pc := 28) K dJ6_bitCount_0f7a4_28 ?_
  refine gg_ldc_w (v := (252645135 : Int32)) (pc := 29) K q_3_184 dJ6_bitCount_0f7a4_29 ?_
  refine gg_iand (pc := 32) K dJ6_bitCount_0f7a4_32 ?_
  refine gg_topi hF (fun y3 ey3 hF => ?_)
  refine gg_istore_n (pc := 33) (lv' := [(0, .int y3)]) K [0] dJ6_bitCount_0f7a4_33 rfl (by decide) rfl ?_
  refine gg_iload_n (pc := 34) K 0 dJ6_bitCount_0f7a4_34 rfl rfl ?_
  refine gg_iload_n (pc := 35) K 0 dJ6_bitCount_0f7a4_35 rfl rfl ?_
  refine gg_bipush (v := (8 : Int32)) (pc := 36) K dJ6_bitCount_0f7a4_36 (by decide) ?_
  refine gg_iushr (pc := 38) K dJ6_bitCount_0f7a4_38 ?_
  refine gg_iadd (pc := 39) K dJ6_bitCount_0f7a4_39 ?_
  refine gg_topi hF (fun y4 ey4 hF => ?_)
  refine gg_istore_n (pc := 40) (lv' := [(0, .int y4)]) K [0] dJ6_bitCount_0f7a4_40 rfl (by decide) rfl ?_
  refine gg_iload_n (pc := 41) K 0 dJ6_bitCount_0f7a4_41 rfl rfl ?_
  refine gg_iload_n (pc := 42) K 0 dJ6_bitCount_0f7a4_42 rfl rfl ?_
  refine gg_bipush (v := (16 : Int32)) (pc := 43) K dJ6_bitCount_0f7a4_43 (by decide) ?_
  refine gg_iushr (pc := 45) K dJ6_bitCount_0f7a4_45 ?_
  refine gg_iadd (pc := 46) K dJ6_bitCount_0f7a4_46 ?_
  refine gg_topi hF (fun y5 ey5 hF => ?_)
  refine gg_istore_n (pc := 47) (lv' := [(0, .int y5)]) K [0] dJ6_bitCount_0f7a4_47 rfl (by decide) rfl ?_
  refine gg_iload_n (pc := 48) K 0 dJ6_bitCount_0f7a4_48 rfl rfl ?_
  refine gg_bipush (v := (63 : Int32)) (pc := 49) K dJ6_bitCount_0f7a4_49 (by decide) ?_
  refine gg_iand (pc := 51) K dJ6_bitCount_0f7a4_51 ?_
  cases hF
  exact (hQ _ _ _ rfl).2.1 _ _ rfl rfl rfl dJ6_bitCount_0f7a4_52
def F_J6_bitCount_0f7a4 (x0 : Int32)  : Option (Int32) := F_J6_bitCount_0f7a4_0 x0
theorem n_J6_bitCount_0f7a4 : yJ6_bitCount_0f7a4.cls ≠ "java/lang/invoke/MethodHandle" ∧ yJ6_bitCount_0f7a4.cls ≠ "java/lang/invoke/VarHandle" ∧ (parseMethodDescriptor yJ6_bitCount_0f7a4.desc).map (fun d => d.parameters.length) = some 1 := by decide +kernel
theorem c_J6_bitCount_0f7a4 (l : Launch) (E : en_T) (x0 : Int32)  {r : Int32}  (hF : F_J6_bitCount_0f7a4 x0  = some (r)) : ct l yJ6_bitCount_0f7a4 cJ6_bitCount_0f7a4 1 (some .int) rm_J6_bitCount_0f7a4 E [.int x0] [] (some (.int r)) (fun x => x = []) := by
  refine ct_ofF te_bc (Nat.le_of_ble_eq_true rfl) (fun B hl hE _ K hQ => ?_)
  subst hl; subst hE
  refine gg_sub (lv' := [(0, .int x0)]) [0] rfl ?_
  exact w_J6_bitCount_0f7a4_0 K hQ hF
theorem dX9_size_0 : decode cX9_size 0 = .ok (.iconst 0, 1) := by decide +kernel
theorem dX9_size_1 : decode cX9_size 1 = .ok (.istore_n 2, 1) := by decide +kernel
theorem dX9_size_2 : decode cX9_size 2 = .ok (.lload_n 0, 1) := by decide +kernel
theorem dX9_size_3 : decode cX9_size 3 = .ok (.lstore_n 3, 1) := by decide +kernel
theorem dX9_size_4 : decode cX9_size 4 = .ok (.iconst 0, 1) := by decide +kernel
theorem dX9_size_5 : decode cX9_size 5 = .ok (.istore 5, 2) := by decide +kernel
theorem dX9_size_7 : decode cX9_size 7 = .ok (.iload 5, 2) := by decide +kernel
theorem dX9_size_9 : decode cX9_size 9 = .ok (.bipush 16, 2) := by decide +kernel
theorem dX9_size_11 : decode cX9_size 11 = .ok (.if_icmp .ge 23, 3) := by decide +kernel
theorem dX9_size_14 : decode cX9_size 14 = .ok (.lload_n 3, 1) := by decide +kernel
theorem dX9_size_15 : decode cX9_size 15 = .ok (.lconst 1, 1) := by decide +kernel
theorem dX9_size_16 : decode cX9_size 16 = .ok (.lcmp, 1) := by decide +kernel
theorem dX9_size_17 : decode cX9_size 17 = .ok (.ifCond .le 17, 3) := by decide +kernel
theorem dX9_size_20 : decode cX9_size 20 = .ok (.lload_n 3, 1) := by decide +kernel
theorem dX9_size_21 : decode cX9_size 21 = .ok (.invokestatic 13, 3) := by decide +kernel
theorem dX9_size_24 : decode cX9_size 24 = .ok (.lstore_n 3, 1) := by decide +kernel
theorem dX9_size_25 : decode cX9_size 25 = .ok (.iinc 2 1, 3) := by decide +kernel
theorem dX9_size_28 : decode cX9_size 28 = .ok (.iinc 5 1, 3) := by decide +kernel
theorem dX9_size_31 : decode cX9_size 31 = .ok (.goto (-24), 3) := by decide +kernel
theorem dX9_size_34 : decode cX9_size 34 = .ok (.iload_n 2, 1) := by decide +kernel
theorem dX9_size_35 : decode cX9_size 35 = .ok (.ireturn, 1) := by decide +kernel
def rm_X9_size : Room := { frames := 1, cells := 0, slots := 0, locals := 21 }
def F_X9_size_7 (k7 : Int32 → Int64 → Int32 → Option (Int32)) (x2 : Int32) (x3 : Int64) (x5 : Int32) : Option (Int32) := if (16 : Int32) ≤ x5 then (some (x2)) else (if x3 ≤ (1 : Int64) then (some (x2)) else (bn1_ (F_X9_withoutLast x3) (fun y3 => lt_ (x2 + (1 : Int32)) (fun y5 => lt_ (x5 + (1 : Int32)) (fun y6 => k7 y5 y3 y6)))))
set_option maxHeartbeats 4000000 in
theorem w_X9_size_7 {B : bu_T} {r : Int32}  (K : cx B cX9_size "SoundDesk$Words" rm_X9_size 6) (hQ : rt B cX9_size 6 (some .int) rm_X9_size (some (.int r)) (fun x => x = [])) {x2 : Int32} {x3 : Int64} {x5 : Int32} {k7 : Int32 → Int64 → Int32 → Option (Int32)} (hk7 : ∀ (x2 : Int32) (x3 : Int64) (x5 : Int32), k7 x2 x3 x5 = some (r) → gg B 6 0 0 7 [(2, .int x2), (3, .long x3), (5, .int x5)] [] []) (hF : F_X9_size_7 k7 x2 x3 x5 = some (r)) : gg B 6 0 0 7 [(2, .int x2), (3, .long x3), (5, .int x5)] [] [] := by
  unfold F_X9_size_7 at hF
  refine gg_iload (pc := 7) K 2 dX9_size_7 rfl ?_
  refine gg_bipush (v := (16 : Int32)) (pc := 9) K dX9_size_9 (by decide) ?_
  refine gg_icmp_ge (pc := 11) K 34 dX9_size_11 rfl hF (fun c1 hF => ?_) (fun c1 hF => ?_)
  · refine gg_iload_n (pc := 34) K 0 dX9_size_34 rfl rfl ?_
    cases hF
    exact (hQ _ _ _ rfl).2.1 _ _ rfl rfl rfl dX9_size_35
  · refine gg_lload_n (pc := 14) K 1 dX9_size_14 rfl rfl ?_
    refine gg_lconst (v := (1 : Int64)) (pc := 15) K dX9_size_15 (by decide) ?_
    refine gg_lcmp_le (pc := 16) K 34 dX9_size_16 dX9_size_17 rfl hF (fun c2 hF => ?_) (fun c2 hF => ?_)
    · refine gg_iload_n (pc := 34) K 0 dX9_size_34 rfl rfl ?_
      cases hF
      exact (hQ _ _ _ rfl).2.1 _ _ rfl rfl rfl dX9_size_35
    · refine gg_lload_n (pc := 20) K 1 dX9_size_20 rfl rfl ?_
      obtain ⟨y3, hc4, hF⟩ := bn1_some hF
      refine gg_dS (pc := 21) (st' := [.long y3]) (rest := []) (w' := []) K (c_X9_withoutLast (bu_l B) (bu_E B) x3 hc4) ⟨rfl, rfl⟩ q_2_217 q_2_218 q_1_13 q_2_219 n_X9_withoutLast ⟨(Nat.le_of_ble_eq_true rfl), (Nat.le_of_ble_eq_true rfl)⟩ [] [] rfl rfl rfl rfl rfl rfl (by decide) rfl rfl rfl ⟨Nat.zero_le _, Nat.zero_le _⟩ (Nat.le_of_ble_eq_true rfl) dX9_size_21 ?_
      refine gg_lstore_n (pc := 24) (lv' := [(2, .int x2), (3, .long y3), (5, .int x5)]) K [1, 0, 2] dX9_size_24 rfl (by decide) rfl ?_
      refine gg_iinc (pc := 25) (v := (1 : Int32)) (lw := fun zz => [(2, .int zz), (3, .long y3), (5, .int x5)]) K 0 [0, 1, 2] dX9_size_25 rfl rfl (by decide) hF (fun _ => rfl) (fun y5 ey5 hF => ?_)
      refine gg_iinc (pc := 28) (v := (1 : Int32)) (lw := fun zz => [(2, .int y5), (3, .long y3), (5, .int zz)]) K 2 [1, 2, 0] dX9_size_28 rfl rfl (by decide) hF (fun _ => rfl) (fun y6 ey6 hF => ?_)
      refine gg_goto (pc := 31) K 7 dX9_size_31 rfl ?_
      exact hk7 y5 y3 y6 hF
def F_X9_size_7L   (fuel : Nat) (x2 : Int32) (x3 : Int64) (x5 : Int32) : Option (Int32) := lp3_ (fun k7 x2 x3 x5 => F_X9_size_7 k7 x2 x3 x5) fuel x2 x3 x5
theorem w_X9_size_7L {B : bu_T} {r : Int32}  (K : cx B cX9_size "SoundDesk$Words" rm_X9_size 6) (hQ : rt B cX9_size 6 (some .int) rm_X9_size (some (.int r)) (fun x => x = []))  : ∀ (fuel : Nat) (x2 : Int32) (x3 : Int64) (x5 : Int32), F_X9_size_7L   fuel x2 x3 x5 = some (r) → gg B 6 0 0 7 [(2, .int x2), (3, .long x3), (5, .int x5)] [] [] := by
  intro fuel
  induction fuel with
  | zero => intro x2 x3 x5 hF; exact absurd hF (by intro h; cases h)
  | succ fuel ih => intro x2 x3 x5 hF; exact w_X9_size_7 K hQ ih hF
def F_X9_size_0  (x0 : Int64) : Option (Int32) := F_X9_size_7L   fu_ (0 : Int32) x0 (0 : Int32)
set_option maxHeartbeats 4000000 in
theorem w_X9_size_0 {B : bu_T} {r : Int32}  (K : cx B cX9_size "SoundDesk$Words" rm_X9_size 6) (hQ : rt B cX9_size 6 (some .int) rm_X9_size (some (.int r)) (fun x => x = [])) {x0 : Int64} (hF : F_X9_size_0  x0 = some (r)) : gg B 6 0 0 0 [(0, .long x0)] [] [] := by
  unfold F_X9_size_0 at hF
  refine gg_iconst (v := (0 : Int32)) (pc := 0) K dX9_size_0 (by decide) ?_
  refine gg_istore_n (pc := 1) (lv' := [(0, .long x0), (2, .int (0 : Int32))]) K [1, 0] dX9_size_1 rfl (by decide) rfl ?_
  refine gg_lload_n (pc := 2) K 0 dX9_size_2 rfl rfl ?_
  refine gg_lstore_n (pc := 3) (lv' := [(0, .long x0), (2, .int (0 : Int32)), (3, .long x0)]) K [1, 2, 0] dX9_size_3 rfl (by decide) rfl ?_
  refine gg_iconst (v := (0 : Int32)) (pc := 4) K dX9_size_4 (by decide) ?_
  refine gg_istore (pc := 5) (lv' := [(0, .long x0), (2, .int (0 : Int32)), (3, .long x0), (5, .int (0 : Int32))]) K [1, 2, 3, 0] dX9_size_5 (by decide) rfl ?_
  refine gg_sub [1, 2, 3] rfl ?_
  exact w_X9_size_7L K hQ  _ (0 : Int32) x0 (0 : Int32) hF
def F_X9_size (x0 : Int64)  : Option (Int32) := F_X9_size_0 x0
theorem n_X9_size : yX9_size.cls ≠ "java/lang/invoke/MethodHandle" ∧ yX9_size.cls ≠ "java/lang/invoke/VarHandle" ∧ (parseMethodDescriptor yX9_size.desc).map (fun d => d.parameters.length) = some 1 := by decide +kernel
theorem c_X9_size (l : Launch) (E : en_T) (x0 : Int64)  {r : Int32}  (hF : F_X9_size x0  = some (r)) : ct l yX9_size cX9_size 6 (some .int) rm_X9_size E [.long x0] [] (some (.int r)) (fun x => x = []) := by
  refine ct_of (by decide +kernel) (Nat.le_of_ble_eq_true rfl) (fun B hl hE _ K hQ => ?_)
  subst hl; subst hE
  refine gg_sub (lv' := [(0, .long x0)]) [0] rfl ?_
  exact w_X9_size_0 K hQ hF
theorem dX9_soundAt_0 : decode cX9_soundAt 0 = .ok (.lload_n 0, 1) := by decide +kernel
theorem dX9_soundAt_1 : decode cX9_soundAt 1 = .ok (.invokestatic 17, 3) := by decide +kernel
theorem dX9_soundAt_4 : decode cX9_soundAt 4 = .ok (.iconst 1, 1) := by decide +kernel
theorem dX9_soundAt_5 : decode cX9_soundAt 5 = .ok (.isub, 1) := by decide +kernel
theorem dX9_soundAt_6 : decode cX9_soundAt 6 = .ok (.iload_n 2, 1) := by decide +kernel
theorem dX9_soundAt_7 : decode cX9_soundAt 7 = .ok (.isub, 1) := by decide +kernel
theorem dX9_soundAt_8 : decode cX9_soundAt 8 = .ok (.istore_n 3, 1) := by decide +kernel
theorem dX9_soundAt_9 : decode cX9_soundAt 9 = .ok (.lload_n 0, 1) := by decide +kernel
theorem dX9_soundAt_10 : decode cX9_soundAt 10 = .ok (.iconst 3, 1) := by decide +kernel
theorem dX9_soundAt_11 : decode cX9_soundAt 11 = .ok (.iload_n 3, 1) := by decide +kernel
theorem dX9_soundAt_12 : decode cX9_soundAt 12 = .ok (.imul, 1) := by decide +kernel
theorem dX9_soundAt_13 : decode cX9_soundAt 13 = .ok (.lushr, 1) := by decide +kernel
theorem dX9_soundAt_14 : decode cX9_soundAt 14 = .ok (.l2i, 1) := by decide +kernel
theorem dX9_soundAt_15 : decode cX9_soundAt 15 = .ok (.bipush 7, 2) := by decide +kernel
theorem dX9_soundAt_17 : decode cX9_soundAt 17 = .ok (.iand, 1) := by decide +kernel
theorem dX9_soundAt_18 : decode cX9_soundAt 18 = .ok (.ireturn, 1) := by decide +kernel
def rm_X9_soundAt : Room := { frames := 2, cells := 0, slots := 0, locals := 46 }
def F_X9_soundAt_0  (x0 : Int64) (x2 : Int32) : Option (Int32) := bn1_ (F_X9_size x0) (fun y1 => lt_ ((y1 - (1 : Int32)) - x2) (fun y3 => some (((Int64.toInt32 (ul_ x0 ((3 : Int32) * y3))) &&& (7 : Int32)))))
set_option maxHeartbeats 4000000 in
theorem w_X9_soundAt_0 {B : bu_T} {r : Int32}  (K : cx B cX9_soundAt "SoundDesk$Words" rm_X9_soundAt 4) (hQ : rt B cX9_soundAt 4 (some .int) rm_X9_soundAt (some (.int r)) (fun x => x = [])) {x0 : Int64} {x2 : Int32} (hF : F_X9_soundAt_0  x0 x2 = some (r)) : gg B 4 0 0 0 [(0, .long x0), (2, .int x2)] [] [] := by
  unfold F_X9_soundAt_0 at hF
  refine gg_lload_n (pc := 0) K 0 dX9_soundAt_0 rfl rfl ?_
  obtain ⟨y1, hc2, hF⟩ := bn1_some hF
  refine gg_dS (pc := 1) (st' := [.int y1]) (rest := []) (w' := []) K (c_X9_size (bu_l B) (bu_E B) x0 hc2) ⟨rfl, rfl⟩ q_2_234 q_2_215 q_1_13 q_2_216 n_X9_size ⟨(Nat.le_of_ble_eq_true rfl), (Nat.le_of_ble_eq_true rfl)⟩ [] [] rfl rfl rfl rfl rfl rfl (by decide) rfl rfl rfl ⟨Nat.zero_le _, Nat.zero_le _⟩ (Nat.le_of_ble_eq_true rfl) dX9_soundAt_1 ?_
  refine gg_iconst (v := (1 : Int32)) (pc := 4) K dX9_soundAt_4 (by decide) ?_
  refine gg_isub (pc := 5) K dX9_soundAt_5 ?_
  refine gg_iload_n (pc := 6) K 1 dX9_soundAt_6 rfl rfl ?_
  refine gg_isub (pc := 7) K dX9_soundAt_7 ?_
  refine gg_topi hF (fun y3 ey3 hF => ?_)
  refine gg_istore_n (pc := 8) (lv' := [(0, .long x0), (2, .int x2), (3, .int y3)]) K [1, 2, 0] dX9_soundAt_8 rfl (by decide) rfl ?_
  refine gg_lload_n (pc := 9) K 0 dX9_soundAt_9 rfl rfl ?_
  refine gg_iconst (v := (3 : Int32)) (pc := 10) K dX9_soundAt_10 (by decide) ?_
  refine gg_iload_n (pc := 11) K 2 dX9_soundAt_11 rfl rfl ?_
  refine gg_imul (pc := 12) K dX9_soundAt_12 ?_
  refine gg_lushr (pc := 13) K dX9_soundAt_13 ?_
  refine gg_l2i (pc := 14) K dX9_soundAt_14 ?_
  refine gg_bipush (v := (7 : Int32)) (pc := 15) K dX9_soundAt_15 (by decide) ?_
  refine gg_iand (pc := 17) K dX9_soundAt_17 ?_
  cases hF
  exact (hQ _ _ _ rfl).2.1 _ _ rfl rfl rfl dX9_soundAt_18
def F_X9_soundAt (x0 : Int64) (x2 : Int32)  : Option (Int32) := F_X9_soundAt_0 x0 x2
theorem n_X9_soundAt : yX9_soundAt.cls ≠ "java/lang/invoke/MethodHandle" ∧ yX9_soundAt.cls ≠ "java/lang/invoke/VarHandle" ∧ (parseMethodDescriptor yX9_soundAt.desc).map (fun d => d.parameters.length) = some 2 := by decide +kernel
theorem c_X9_soundAt (l : Launch) (E : en_T) (x0 : Int64) (x2 : Int32)  {r : Int32}  (hF : F_X9_soundAt x0 x2  = some (r)) : ct l yX9_soundAt cX9_soundAt 4 (some .int) rm_X9_soundAt E [.long x0, .int x2] [] (some (.int r)) (fun x => x = []) := by
  refine ct_of (by decide +kernel) (Nat.le_of_ble_eq_true rfl) (fun B hl hE _ K hQ => ?_)
  subst hl; subst hE
  refine gg_sub (lv' := [(0, .long x0), (2, .int x2)]) [0, 1] rfl ?_
  exact w_X9_soundAt_0 K hQ hF
