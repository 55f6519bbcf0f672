theorem dX5_apart_0 : decode cX5_apart 0 = .ok (.iload_n 1, 1) := by decide +kernel
theorem dX5_apart_1 : decode cX5_apart 1 = .ok (.iload_n 2, 1) := by decide +kernel
theorem dX5_apart_2 : decode cX5_apart 2 = .ok (.if_icmp .ne 5, 3) := by decide +kernel
theorem dX5_apart_5 : decode cX5_apart 5 = .ok (.iconst 0, 1) := by decide +kernel
theorem dX5_apart_6 : decode cX5_apart 6 = .ok (.ireturn, 1) := by decide +kernel
theorem dX5_apart_7 : decode cX5_apart 7 = .ok (.iconst 1, 1) := by decide +kernel
theorem dX5_apart_8 : decode cX5_apart 8 = .ok (.aload_n 0, 1) := by decide +kernel
theorem dX5_apart_9 : decode cX5_apart 9 = .ok (.getfield 20, 3) := by decide +kernel
theorem dX5_apart_12 : decode cX5_apart 12 = .ok (.iload_n 1, 1) := by decide +kernel
theorem dX5_apart_13 : decode cX5_apart 13 = .ok (.iaload, 1) := by decide +kernel
theorem dX5_apart_14 : decode cX5_apart 14 = .ok (.aload_n 0, 1) := by decide +kernel
theorem dX5_apart_15 : decode cX5_apart 15 = .ok (.getfield 23, 3) := by decide +kernel
theorem dX5_apart_18 : decode cX5_apart 18 = .ok (.iload_n 2, 1) := by decide +kernel
theorem dX5_apart_19 : decode cX5_apart 19 = .ok (.iaload, 1) := by decide +kernel
theorem dX5_apart_20 : decode cX5_apart 20 = .ok (.iand, 1) := by decide +kernel
theorem dX5_apart_21 : decode cX5_apart 21 = .ok (.invokestatic 40, 3) := by decide +kernel
theorem dX5_apart_24 : decode cX5_apart 24 = .ok (.iadd, 1) := by decide +kernel
theorem dX5_apart_25 : decode cX5_apart 25 = .ok (.aload_n 0, 1) := by decide +kernel
theorem dX5_apart_26 : decode cX5_apart 26 = .ok (.getfield 23, 3) := by decide +kernel
theorem dX5_apart_29 : decode cX5_apart 29 = .ok (.iload_n 1, 1) := by decide +kernel
theorem dX5_apart_30 : decode cX5_apart 30 = .ok (.iaload, 1) := by decide +kernel
theorem dX5_apart_31 : decode cX5_apart 31 = .ok (.aload_n 0, 1) := by decide +kernel
theorem dX5_apart_32 : decode cX5_apart 32 = .ok (.getfield 20, 3) := by decide +kernel
theorem dX5_apart_35 : decode cX5_apart 35 = .ok (.iload_n 2, 1) := by decide +kernel
theorem dX5_apart_36 : decode cX5_apart 36 = .ok (.iaload, 1) := by decide +kernel
theorem dX5_apart_37 : decode cX5_apart 37 = .ok (.iand, 1) := by decide +kernel
theorem dX5_apart_38 : decode cX5_apart 38 = .ok (.invokestatic 40, 3) := by decide +kernel
theorem dX5_apart_41 : decode cX5_apart 41 = .ok (.iadd, 1) := by decide +kernel
theorem dX5_apart_42 : decode cX5_apart 42 = .ok (.ireturn, 1) := by decide +kernel
def rm_X5_apart : Room := { frames := 1, cells := 0, slots := 0, locals := 20 }
def W_X5_apart (E : en_T) (a_t a_t_kind a_t_yes a_t_no : Nat) (v_t_count : Int32) (v_t_missingRows : Int32) (v_t_no : (Nat → Int32)) (v_t_yes : (Nat → Int32)) : va_W := [(a_t, .inr (5, [.int v_t_count, .int v_t_missingRows, .ref a_t_kind, .ref a_t_yes, .ref a_t_no])), (a_t_no, .inl (en_I E, 8, .inl v_t_no)), (a_t_yes, .inl (en_I E, 8, .inl v_t_yes))]
def F_X5_apart_0  (x1 : Int32) (x2 : Int32) (v_t_no : (Nat → Int32)) (v_t_yes : (Nat → Int32)) : Option (Int32) := if x1 = x2 then (some ((0 : Int32))) else (ck_ x1 8 (ck_ x2 8 (bn1_ (F_J6_bitCount_0f7a4 ((v_t_yes (Int32.toNatClampNeg x1)) &&& (v_t_no (Int32.toNatClampNeg x2)))) (fun y2 => ck_ x1 8 (ck_ x2 8 (bn1_ (F_J6_bitCount_0f7a4 ((v_t_no (Int32.toNatClampNeg x1)) &&& (v_t_yes (Int32.toNatClampNeg x2)))) (fun y4 => some ((((1 : Int32) + y2) + y4)))))))))
set_option maxHeartbeats 4000000 in
theorem w_X5_apart_0 {B : bu_T} {a_t a_t_kind a_t_yes a_t_no : Nat} {v_t_count : Int32} {v_t_missingRows : Int32} {v_t_no : (Nat → Int32)} {v_t_yes : (Nat → Int32)} {r : Int32}  (K : cx B cX5_apart "SoundDesk$Sounds" rm_X5_apart 3) (hQ : rt B cX5_apart 3 (some .int) rm_X5_apart (some (.int r)) (fun x => x = (W_X5_apart (bu_E B) a_t a_t_kind a_t_yes a_t_no v_t_count v_t_missingRows v_t_no v_t_yes))) {x1 : Int32} {x2 : Int32} (hF : F_X5_apart_0  x1 x2 v_t_no v_t_yes = some (r)) : gg B 3 0 0 0 [(0, .ref a_t), (1, .int x1), (2, .int x2)] [] (W_X5_apart (bu_E B) a_t a_t_kind a_t_yes a_t_no v_t_count v_t_missingRows v_t_no v_t_yes) := by
  unfold F_X5_apart_0 at hF
  refine gg_iload_n (pc := 0) K 1 dX5_apart_0 rfl rfl ?_
  refine gg_iload_n (pc := 1) K 2 dX5_apart_1 rfl rfl ?_
  refine gg_icmp_ne (pc := 2) K 7 dX5_apart_2 rfl hF (fun c1 hF => ?_) (fun c1 hF => ?_)
  · refine gg_iconst (v := (1 : Int32)) (pc := 7) K dX5_apart_7 (by decide) ?_
    refine gg_aload_n (pc := 8) K 0 dX5_apart_8 rfl rfl ?_
    refine gg_get (pc := 9) K 0 3 i_X5 rfl rfl (by decide) q_1_49 rfl dX5_apart_9 ?_
    refine gg_iload_n (pc := 12) K 1 dX5_apart_12 rfl rfl ?_
    refine gg_iald (pc := 13) K 2 rfl dX5_apart_13 hF (fun hF => ?_)
    refine gg_aload_n (pc := 14) K 0 dX5_apart_14 rfl rfl ?_
    refine gg_get (pc := 15) K 0 4 i_X5 rfl rfl (by decide) q_1_50 rfl dX5_apart_15 ?_
    refine gg_iload_n (pc := 18) K 2 dX5_apart_18 rfl rfl ?_
    refine gg_iald (pc := 19) K 1 rfl dX5_apart_19 hF (fun hF => ?_)
    refine gg_iand (pc := 20) K dX5_apart_20 ?_
    obtain ⟨y2, hc3, hF⟩ := bn1_some hF
    refine gg_dS (pc := 21) (st' := [.int y2, .int (1 : Int32)]) (rest := [.int (1 : Int32)]) (w' := (W_X5_apart (bu_E B) a_t a_t_kind a_t_yes a_t_no v_t_count v_t_missingRows v_t_no v_t_yes)) K (c_J6_bitCount_0f7a4 (bu_l B) (bu_E B) ((v_t_yes (Int32.toNatClampNeg x1)) &&& (v_t_no (Int32.toNatClampNeg x2))) hc3) ⟨rfl, rfl⟩ q_4_4 q_3_180 q_1_15 q_3_181 n_J6_bitCount_0f7a4 ⟨(Nat.le_of_ble_eq_true rfl), (Nat.le_of_ble_eq_true rfl)⟩ [] [false, false, false] rfl rfl rfl rfl rfl rfl (by decide) rfl rfl rfl ⟨Nat.zero_le _, Nat.zero_le _⟩ (Nat.le_of_ble_eq_true rfl) dX5_apart_21 ?_
    refine gg_iadd (pc := 24) K dX5_apart_24 ?_
    refine gg_aload_n (pc := 25) K 0 dX5_apart_25 rfl rfl ?_
    refine gg_get (pc := 26) K 0 4 i_X5 rfl rfl (by decide) q_1_50 rfl dX5_apart_26 ?_
    refine gg_iload_n (pc := 29) K 1 dX5_apart_29 rfl rfl ?_
    refine gg_iald (pc := 30) K 1 rfl dX5_apart_30 hF (fun hF => ?_)
    refine gg_aload_n (pc := 31) K 0 dX5_apart_31 rfl rfl ?_
    refine gg_get (pc := 32) K 0 3 i_X5 rfl rfl (by decide) q_1_49 rfl dX5_apart_32 ?_
    refine gg_iload_n (pc := 35) K 2 dX5_apart_35 rfl rfl ?_
    refine gg_iald (pc := 36) K 2 rfl dX5_apart_36 hF (fun hF => ?_)
    refine gg_iand (pc := 37) K dX5_apart_37 ?_
    obtain ⟨y4, hc5, hF⟩ := bn1_some hF
    refine gg_dS (pc := 38) (st' := [.int y4, .int ((1 : Int32) + y2)]) (rest := [.int ((1 : Int32) + y2)]) (w' := (W_X5_apart (bu_E B) a_t a_t_kind a_t_yes a_t_no v_t_count v_t_missingRows v_t_no v_t_yes)) K (c_J6_bitCount_0f7a4 (bu_l B) (bu_E B) ((v_t_no (Int32.toNatClampNeg x1)) &&& (v_t_yes (Int32.toNatClampNeg x2))) hc5) ⟨rfl, rfl⟩ q_4_4 q_3_180 q_1_15 q_3_181 n_J6_bitCount_0f7a4 ⟨(Nat.le_of_ble_eq_true rfl), (Nat.le_of_ble_eq_true rfl)⟩ [] [false, false, false] rfl rfl rfl rfl rfl rfl (by decide) rfl rfl rfl ⟨Nat.zero_le _, Nat.zero_le _⟩ (Nat.le_of_ble_eq_true rfl) dX5_apart_38 ?_
    refine gg_iadd (pc := 41) K dX5_apart_41 ?_
    cases hF
    exact (hQ _ _ _ rfl).2.1 _ _ rfl rfl rfl dX5_apart_42
  · refine gg_iconst (v := (0 : Int32)) (pc := 5) K dX5_apart_5 (by decide) ?_
    cases hF
    exact (hQ _ _ _ rfl).2.1 _ _ rfl rfl rfl dX5_apart_6
def F_X5_apart (x1 : Int32) (x2 : Int32) (v_t_no : (Nat → Int32)) (v_t_yes : (Nat → Int32)) : Option (Int32) := F_X5_apart_0 x1 x2 v_t_no v_t_yes
theorem n_X5_apart : yX5_apart.cls = "SoundDesk$Sounds" ∧ yX5_apart.cls ≠ "java/lang/invoke/MethodHandle" ∧ yX5_apart.cls ≠ "java/lang/invoke/VarHandle" ∧ (parseMethodDescriptor yX5_apart.desc).map (fun d => d.parameters.length) = some 2 := by decide +kernel
theorem c_X5_apart (l : Launch) (E : en_T) (a_t a_t_kind a_t_yes a_t_no : Nat) (x1 : Int32) (x2 : Int32) (v_t_count : Int32) (v_t_missingRows : Int32) (v_t_no : (Nat → Int32)) (v_t_yes : (Nat → Int32)) {r : Int32}  (hF : F_X5_apart x1 x2 v_t_no v_t_yes = some (r)) : ct l yX5_apart cX5_apart 3 (some .int) rm_X5_apart E [.ref a_t, .int x1, .int x2] (W_X5_apart E a_t a_t_kind a_t_yes a_t_no v_t_count v_t_missingRows v_t_no v_t_yes) (some (.int r)) (fun x => x = (W_X5_apart E a_t a_t_kind a_t_yes a_t_no v_t_count v_t_missingRows v_t_no v_t_yes)) := by
  refine ct_of (by decide +kernel) (Nat.le_of_ble_eq_true rfl) (fun B hl hE _ K hQ => ?_)
  subst hl; subst hE
  refine gg_sub (lv' := [(0, .ref a_t), (1, .int x1), (2, .int x2)]) [0, 1, 2] rfl ?_
  exact w_X5_apart_0 K hQ hF
theorem dX5_isKind_0 : decode cX5_isKind 0 = .ok (.iload_n 0, 1) := by decide +kernel
theorem dX5_isKind_1 : decode cX5_isKind 1 = .ok (.ifCond .lt 12, 3) := by decide +kernel
theorem dX5_isKind_4 : decode cX5_isKind 4 = .ok (.iload_n 0, 1) := by decide +kernel
theorem dX5_isKind_5 : decode cX5_isKind 5 = .ok (.iconst 4, 1) := by decide +kernel
theorem dX5_isKind_6 : decode cX5_isKind 6 = .ok (.if_icmp .gt 7, 3) := by decide +kernel
theorem dX5_isKind_9 : decode cX5_isKind 9 = .ok (.iconst 1, 1) := by decide +kernel
theorem dX5_isKind_10 : decode cX5_isKind 10 = .ok (.goto 4, 3) := by decide +kernel
theorem dX5_isKind_13 : decode cX5_isKind 13 = .ok (.iconst 0, 1) := by decide +kernel
theorem dX5_isKind_14 : decode cX5_isKind 14 = .ok (.ireturn, 1) := by decide +kernel
def rm_X5_isKind : Room := { frames := 0, cells := 0, slots := 0, locals := 0 }
def F_X5_isKind_0  (x0 : Int32) : Option (Int32) := if x0 < (0 : Int32) then (some ((0 : Int32))) else (if (4 : Int32) < x0 then (some ((0 : Int32))) else (some ((1 : Int32))))
set_option maxHeartbeats 4000000 in
theorem w_X5_isKind_0 {B : bu_T} {r : Int32}  (K : cx B cX5_isKind "SoundDesk$Sounds" rm_X5_isKind 1) (hQ : rt B cX5_isKind 1 (some .boolean) rm_X5_isKind (some (.int r)) (fun x => x = [])) {x0 : Int32} (hF : F_X5_isKind_0  x0 = some (r)) : gg B 1 0 0 0 [(0, .int x0)] [] [] := by
  unfold F_X5_isKind_0 at hF
  refine gg_iload_n (pc := 0) K 0 dX5_isKind_0 rfl rfl ?_
  refine gg_if_lt (pc := 1) K 13 dX5_isKind_1 rfl hF (fun c1 hF => ?_) (fun c1 hF => ?_)
  · refine gg_iconst (v := (0 : Int32)) (pc := 13) K dX5_isKind_13 (by decide) ?_
    cases hF
    exact (hQ _ _ _ rfl).2.1 _ _ rfl rfl rfl dX5_isKind_14
  · refine gg_iload_n (pc := 4) K 0 dX5_isKind_4 rfl rfl ?_
    refine gg_iconst (v := (4 : Int32)) (pc := 5) K dX5_isKind_5 (by decide) ?_
    refine gg_icmp_gt (pc := 6) K 13 dX5_isKind_6 rfl hF (fun c2 hF => ?_) (fun c2 hF => ?_)
    · refine gg_iconst (v := (0 : Int32)) (pc := 13) K dX5_isKind_13 (by decide) ?_
      cases hF
      exact (hQ _ _ _ rfl).2.1 _ _ rfl rfl rfl dX5_isKind_14
    · refine gg_iconst (v := (1 : Int32)) (pc := 9) K dX5_isKind_9 (by decide) ?_
      refine gg_goto (pc := 10) K 14 dX5_isKind_10 rfl ?_
      cases hF
      exact (hQ _ _ _ rfl).2.1 _ _ rfl rfl rfl dX5_isKind_14
def F_X5_isKind (x0 : Int32)  : Option (Int32) := F_X5_isKind_0 x0
theorem n_X5_isKind : yX5_isKind.cls ≠ "java/lang/invoke/MethodHandle" ∧ yX5_isKind.cls ≠ "java/lang/invoke/VarHandle" ∧ (parseMethodDescriptor yX5_isKind.desc).map (fun d => d.parameters.length) = some 1 := by decide +kernel
theorem c_X5_isKind (l : Launch) (E : en_T) (x0 : Int32)  {r : Int32}  (hF : F_X5_isKind x0  = some (r)) : ct l yX5_isKind cX5_isKind 1 (some .boolean) rm_X5_isKind E [.int x0] [] (some (.int r)) (fun x => x = []) := by
  refine ct_of (by decide +kernel) (Nat.le_of_ble_eq_true rfl) (fun B hl hE _ K hQ => ?_)
  subst hl; subst hE
  refine gg_sub (lv' := [(0, .int x0)]) [0] rfl ?_
  exact w_X5_isKind_0 K hQ hF
theorem dX5_isMarks_0 : decode cX5_isMarks 0 = .ok (.iload_n 0, 1) := by decide +kernel
theorem dX5_isMarks_1 : decode cX5_isMarks 1 = .ok (.ifCond .lt 14, 3) := by decide +kernel
theorem dX5_isMarks_4 : decode cX5_isMarks 4 = .ok (.iload_n 0, 1) := by decide +kernel
theorem dX5_isMarks_5 : decode cX5_isMarks 5 = .ok (.sipush 255, 3) := by decide +kernel
theorem dX5_isMarks_8 : decode cX5_isMarks 8 = .ok (.if_icmp .gt 7, 3) := by decide +kernel
theorem dX5_isMarks_11 : decode cX5_isMarks 11 = .ok (.iconst 1, 1) := by decide +kernel
theorem dX5_isMarks_12 : decode cX5_isMarks 12 = .ok (.goto 4, 3) := by decide +kernel
theorem dX5_isMarks_15 : decode cX5_isMarks 15 = .ok (.iconst 0, 1) := by decide +kernel
theorem dX5_isMarks_16 : decode cX5_isMarks 16 = .ok (.ireturn, 1) := by decide +kernel
def rm_X5_isMarks : Room := { frames := 0, cells := 0, slots := 0, locals := 0 }
def F_X5_isMarks_0  (x0 : Int32) : Option (Int32) := if x0 < (0 : Int32) then (some ((0 : Int32))) else (if (255 : Int32) < x0 then (some ((0 : Int32))) else (some ((1 : Int32))))
set_option maxHeartbeats 4000000 in
theorem w_X5_isMarks_0 {B : bu_T} {r : Int32}  (K : cx B cX5_isMarks "SoundDesk$Sounds" rm_X5_isMarks 1) (hQ : rt B cX5_isMarks 1 (some .boolean) rm_X5_isMarks (some (.int r)) (fun x => x = [])) {x0 : Int32} (hF : F_X5_isMarks_0  x0 = some (r)) : gg B 1 0 0 0 [(0, .int x0)] [] [] := by
  unfold F_X5_isMarks_0 at hF
  refine gg_iload_n (pc := 0) K 0 dX5_isMarks_0 rfl rfl ?_
  refine gg_if_lt (pc := 1) K 15 dX5_isMarks_1 rfl hF (fun c1 hF => ?_) (fun c1 hF => ?_)
  · refine gg_iconst (v := (0 : Int32)) (pc := 15) K dX5_isMarks_15 (by decide) ?_
    cases hF
    exact (hQ _ _ _ rfl).2.1 _ _ rfl rfl rfl dX5_isMarks_16
  · refine gg_iload_n (pc := 4) K 0 dX5_isMarks_4 rfl rfl ?_
    refine gg_sipush (v := (255 : Int32)) (pc := 5) K dX5_isMarks_5 (by decide) ?_
    refine gg_icmp_gt (pc := 8) K 15 dX5_isMarks_8 rfl hF (fun c2 hF => ?_) (fun c2 hF => ?_)
    · refine gg_iconst (v := (0 : Int32)) (pc := 15) K dX5_isMarks_15 (by decide) ?_
      cases hF
      exact (hQ _ _ _ rfl).2.1 _ _ rfl rfl rfl dX5_isMarks_16
    · refine gg_iconst (v := (1 : Int32)) (pc := 11) K dX5_isMarks_11 (by decide) ?_
      refine gg_goto (pc := 12) K 16 dX5_isMarks_12 rfl ?_
      cases hF
      exact (hQ _ _ _ rfl).2.1 _ _ rfl rfl rfl dX5_isMarks_16
def F_X5_isMarks (x0 : Int32)  : Option (Int32) := F_X5_isMarks_0 x0
theorem n_X5_isMarks : yX5_isMarks.cls ≠ "java/lang/invoke/MethodHandle" ∧ yX5_isMarks.cls ≠ "java/lang/invoke/VarHandle" ∧ (parseMethodDescriptor yX5_isMarks.desc).map (fun d => d.parameters.length) = some 1 := by decide +kernel
theorem c_X5_isMarks (l : Launch) (E : en_T) (x0 : Int32)  {r : Int32}  (hF : F_X5_isMarks x0  = some (r)) : ct l yX5_isMarks cX5_isMarks 1 (some .boolean) rm_X5_isMarks E [.int x0] [] (some (.int r)) (fun x => x = []) := by
  refine ct_of (by decide +kernel) (Nat.le_of_ble_eq_true rfl) (fun B hl hE _ K hQ => ?_)
  subst hl; subst hE
  refine gg_sub (lv' := [(0, .int x0)]) [0] rfl ?_
  exact w_X5_isMarks_0 K hQ hF
theorem dX5_isOf_0 : decode cX5_isOf 0 = .ok (.aload_n 0, 1) := by decide +kernel
theorem dX5_isOf_1 : decode cX5_isOf 1 = .ok (.getfield 16, 3) := by decide +kernel
theorem dX5_isOf_4 : decode cX5_isOf 4 = .ok (.iload_n 1, 1) := by decide +kernel
theorem dX5_isOf_5 : decode cX5_isOf 5 = .ok (.iaload, 1) := by decide +kernel
theorem dX5_isOf_6 : decode cX5_isOf 6 = .ok (.istore_n 3, 1) := by decide +kernel
theorem dX5_isOf_7 : decode cX5_isOf 7 = .ok (.iload_n 2, 1) := by decide +kernel
theorem dX5_isOf_8 : decode cX5_isOf 8 = .ok (.ifCond .eq 28, 3) := by decide +kernel
theorem dX5_isOf_11 : decode cX5_isOf 11 = .ok (.iload_n 2, 1) := by decide +kernel
theorem dX5_isOf_12 : decode cX5_isOf 12 = .ok (.iload_n 3, 1) := by decide +kernel
theorem dX5_isOf_13 : decode cX5_isOf 13 = .ok (.if_icmp .eq 23, 3) := by decide +kernel
theorem dX5_isOf_16 : decode cX5_isOf 16 = .ok (.iload_n 2, 1) := by decide +kernel
theorem dX5_isOf_17 : decode cX5_isOf 17 = .ok (.iconst 1, 1) := by decide +kernel
theorem dX5_isOf_18 : decode cX5_isOf 18 = .ok (.if_icmp .ne 8, 3) := by decide +kernel
theorem dX5_isOf_21 : decode cX5_isOf 21 = .ok (.iload_n 3, 1) := by decide +kernel
theorem dX5_isOf_22 : decode cX5_isOf 22 = .ok (.iconst 2, 1) := by decide +kernel
theorem dX5_isOf_23 : decode cX5_isOf 23 = .ok (.if_icmp .eq 13, 3) := by decide +kernel
theorem dX5_isOf_26 : decode cX5_isOf 26 = .ok (.iload_n 2, 1) := by decide +kernel
theorem dX5_isOf_27 : decode cX5_isOf 27 = .ok (.iconst 3, 1) := by decide +kernel
theorem dX5_isOf_28 : decode cX5_isOf 28 = .ok (.if_icmp .ne 12, 3) := by decide +kernel
theorem dX5_isOf_31 : decode cX5_isOf 31 = .ok (.iload_n 3, 1) := by decide +kernel
theorem dX5_isOf_32 : decode cX5_isOf 32 = .ok (.iconst 4, 1) := by decide +kernel
theorem dX5_isOf_33 : decode cX5_isOf 33 = .ok (.if_icmp .ne 7, 3) := by decide +kernel
theorem dX5_isOf_36 : decode cX5_isOf 36 = .ok (.iconst 1, 1) := by decide +kernel
theorem dX5_isOf_37 : decode cX5_isOf 37 = .ok (.goto 4, 3) := by decide +kernel
theorem dX5_isOf_40 : decode cX5_isOf 40 = .ok (.iconst 0, 1) := by decide +kernel
theorem dX5_isOf_41 : decode cX5_isOf 41 = .ok (.ireturn, 1) := by decide +kernel
def rm_X5_isOf : Room := { frames := 0, cells := 0, slots := 0, locals := 0 }
def W_X5_isOf (E : en_T) (a_t a_t_kind a_t_yes a_t_no : Nat) (v_t_count : Int32) (v_t_missingRows : Int32) (v_t_kind : (Nat → Int32)) : va_W := [(a_t, .inr (5, [.int v_t_count, .int v_t_missingRows, .ref a_t_kind, .ref a_t_yes, .ref a_t_no])), (a_t_kind, .inl (en_I E, 8, .inl v_t_kind))]
def F_X5_isOf_36   : Option (Int32) := some ((1 : Int32))
set_option maxHeartbeats 4000000 in
theorem w_X5_isOf_36 {B : bu_T} {a_t a_t_kind a_t_yes a_t_no : Nat} {v_t_count : Int32} {v_t_missingRows : Int32} {v_t_kind : (Nat → Int32)} {r : Int32}  (K : cx B cX5_isOf "SoundDesk$Sounds" rm_X5_isOf 4) (hQ : rt B cX5_isOf 4 (some .boolean) rm_X5_isOf (some (.int r)) (fun x => x = (W_X5_isOf (bu_E B) a_t a_t_kind a_t_yes a_t_no v_t_count v_t_missingRows v_t_kind)))  (hF : F_X5_isOf_36   = some (r)) : gg B 4 0 0 36 [] [] (W_X5_isOf (bu_E B) a_t a_t_kind a_t_yes a_t_no v_t_count v_t_missingRows v_t_kind) := by
  unfold F_X5_isOf_36 at hF
  refine gg_iconst (v := (1 : Int32)) (pc := 36) K dX5_isOf_36 (by decide) ?_
  refine gg_goto (pc := 37) K 41 dX5_isOf_37 rfl ?_
  cases hF
  exact (hQ _ _ _ rfl).2.1 _ _ rfl rfl rfl dX5_isOf_41
def F_X5_isOf_26  (x2 : Int32) (x3 : Int32) : Option (Int32) := if x2 = (3 : Int32) then (if x3 = (4 : Int32) then (F_X5_isOf_36  ) else (some ((0 : Int32)))) else (some ((0 : Int32)))
set_option maxHeartbeats 4000000 in
theorem w_X5_isOf_26 {B : bu_T} {a_t a_t_kind a_t_yes a_t_no : Nat} {v_t_count : Int32} {v_t_missingRows : Int32} {v_t_kind : (Nat → Int32)} {r : Int32}  (K : cx B cX5_isOf "SoundDesk$Sounds" rm_X5_isOf 4) (hQ : rt B cX5_isOf 4 (some .boolean) rm_X5_isOf (some (.int r)) (fun x => x = (W_X5_isOf (bu_E B) a_t a_t_kind a_t_yes a_t_no v_t_count v_t_missingRows v_t_kind))) {x2 : Int32} {x3 : Int32} (hF : F_X5_isOf_26  x2 x3 = some (r)) : gg B 4 0 0 26 [(2, .int x2), (3, .int x3)] [] (W_X5_isOf (bu_E B) a_t a_t_kind a_t_yes a_t_no v_t_count v_t_missingRows v_t_kind) := by
  unfold F_X5_isOf_26 at hF
  refine gg_iload_n (pc := 26) K 0 dX5_isOf_26 rfl rfl ?_
  refine gg_iconst (v := (3 : Int32)) (pc := 27) K dX5_isOf_27 (by decide) ?_
  refine gg_icmp_ne (pc := 28) K 40 dX5_isOf_28 rfl hF (fun c1 hF => ?_) (fun c1 hF => ?_)
  · refine gg_iconst (v := (0 : Int32)) (pc := 40) K dX5_isOf_40 (by decide) ?_
    cases hF
    exact (hQ _ _ _ rfl).2.1 _ _ rfl rfl rfl dX5_isOf_41
  · refine gg_iload_n (pc := 31) K 1 dX5_isOf_31 rfl rfl ?_
    refine gg_iconst (v := (4 : Int32)) (pc := 32) K dX5_isOf_32 (by decide) ?_
    refine gg_icmp_ne (pc := 33) K 40 dX5_isOf_33 rfl hF (fun c2 hF => ?_) (fun c2 hF => ?_)
    · refine gg_iconst (v := (0 : Int32)) (pc := 40) K dX5_isOf_40 (by decide) ?_
      cases hF
      exact (hQ _ _ _ rfl).2.1 _ _ rfl rfl rfl dX5_isOf_41
    · refine gg_sub [] rfl ?_
      exact w_X5_isOf_36 K hQ  hF
def F_X5_isOf_0  (x1 : Int32) (x2 : Int32) (v_t_kind : (Nat → Int32)) : Option (Int32) := ck_ x1 8 (lt_ (v_t_kind (Int32.toNatClampNeg x1)) (fun y3 => if x2 = (0 : Int32) then (F_X5_isOf_36  ) else (if x2 = y3 then (F_X5_isOf_36  ) else (if x2 = (1 : Int32) then (if y3 = (2 : Int32) then (F_X5_isOf_36  ) else (F_X5_isOf_26  x2 y3)) else (F_X5_isOf_26  x2 y3)))))
set_option maxHeartbeats 4000000 in
theorem w_X5_isOf_0 {B : bu_T} {a_t a_t_kind a_t_yes a_t_no : Nat} {v_t_count : Int32} {v_t_missingRows : Int32} {v_t_kind : (Nat → Int32)} {r : Int32}  (K : cx B cX5_isOf "SoundDesk$Sounds" rm_X5_isOf 4) (hQ : rt B cX5_isOf 4 (some .boolean) rm_X5_isOf (some (.int r)) (fun x => x = (W_X5_isOf (bu_E B) a_t a_t_kind a_t_yes a_t_no v_t_count v_t_missingRows v_t_kind))) {x1 : Int32} {x2 : Int32} (hF : F_X5_isOf_0  x1 x2 v_t_kind = some (r)) : gg B 4 0 0 0 [(0, .ref a_t), (1, .int x1), (2, .int x2)] [] (W_X5_isOf (bu_E B) a_t a_t_kind a_t_yes a_t_no v_t_count v_t_missingRows v_t_kind) := by
  unfold F_X5_isOf_0 at hF
  refine gg_aload_n (pc := 0) K 0 dX5_isOf_0 rfl rfl ?_
  refine gg_get (pc := 1) K 0 2 i_X5 rfl rfl (by decide) q_1_48 rfl dX5_isOf_1 ?_
  refine gg_iload_n (pc := 4) K 1 dX5_isOf_4 rfl rfl ?_
  refine gg_iald (pc := 5) K 1 rfl dX5_isOf_5 hF (fun hF => ?_)
  refine gg_topi hF (fun y3 ey3 hF => ?_)
  refine gg_istore_n (pc := 6) (lv' := [(0, .ref a_t), (1, .int x1), (2, .int x2), (3, .int y3)]) K [1, 2, 3, 0] dX5_isOf_6 rfl (by decide) rfl ?_
  refine gg_iload_n (pc := 7) K 2 dX5_isOf_7 rfl rfl ?_
  refine gg_if_eq (pc := 8) K 36 dX5_isOf_8 rfl hF (fun c4 hF => ?_) (fun c4 hF => ?_)
  · refine gg_sub [] rfl ?_
    exact w_X5_isOf_36 K hQ  hF
  · refine gg_iload_n (pc := 11) K 2 dX5_isOf_11 rfl rfl ?_
    refine gg_iload_n (pc := 12) K 3 dX5_isOf_12 rfl rfl ?_
    refine gg_icmp_eq (pc := 13) K 36 dX5_isOf_13 rfl hF (fun c5 hF => ?_) (fun c5 hF => ?_)
    · refine gg_sub [] rfl ?_
      exact w_X5_isOf_36 K hQ  hF
    · refine gg_iload_n (pc := 16) K 2 dX5_isOf_16 rfl rfl ?_
      refine gg_iconst (v := (1 : Int32)) (pc := 17) K dX5_isOf_17 (by decide) ?_
      refine gg_icmp_ne (pc := 18) K 26 dX5_isOf_18 rfl hF (fun c6 hF => ?_) (fun c6 hF => ?_)
      · refine gg_sub [2, 3] rfl ?_
        exact w_X5_isOf_26 K hQ  hF
      · refine gg_iload_n (pc := 21) K 3 dX5_isOf_21 rfl rfl ?_
        refine gg_iconst (v := (2 : Int32)) (pc := 22) K dX5_isOf_22 (by decide) ?_
        refine gg_icmp_eq (pc := 23) K 36 dX5_isOf_23 rfl hF (fun c7 hF => ?_) (fun c7 hF => ?_)
        · refine gg_sub [] rfl ?_
          exact w_X5_isOf_36 K hQ  hF
        · refine gg_sub [2, 3] rfl ?_
          exact w_X5_isOf_26 K hQ  hF
def F_X5_isOf (x1 : Int32) (x2 : Int32) (v_t_kind : (Nat → Int32)) : Option (Int32) := F_X5_isOf_0 x1 x2 v_t_kind
theorem n_X5_isOf : yX5_isOf.cls = "SoundDesk$Sounds" ∧ yX5_isOf.cls ≠ "java/lang/invoke/MethodHandle" ∧ yX5_isOf.cls ≠ "java/lang/invoke/VarHandle" ∧ (parseMethodDescriptor yX5_isOf.desc).map (fun d => d.parameters.length) = some 2 := by decide +kernel
theorem c_X5_isOf (l : Launch) (E : en_T) (a_t a_t_kind a_t_yes a_t_no : Nat) (x1 : Int32) (x2 : Int32) (v_t_count : Int32) (v_t_missingRows : Int32) (v_t_kind : (Nat → Int32)) {r : Int32}  (hF : F_X5_isOf x1 x2 v_t_kind = some (r)) : ct l yX5_isOf cX5_isOf 4 (some .boolean) rm_X5_isOf E [.ref a_t, .int x1, .int x2] (W_X5_isOf E a_t a_t_kind a_t_yes a_t_no v_t_count v_t_missingRows v_t_kind) (some (.int r)) (fun x => x = (W_X5_isOf E a_t a_t_kind a_t_yes a_t_no v_t_count v_t_missingRows v_t_kind)) := by
  refine ct_of (by decide +kernel) (Nat.le_of_ble_eq_true rfl) (fun B hl hE _ K hQ => ?_)
  subst hl; subst hE
  refine gg_sub (lv' := [(0, .ref a_t), (1, .int x1), (2, .int x2)]) [0, 1, 2] rfl ?_
  exact w_X5_isOf_0 K hQ hF
theorem dX5_fits_0 : decode cX5_fits 0 = .ok (.aload_n 0, 1) := by decide +kernel
theorem dX5_fits_1 : decode cX5_fits 1 = .ok (.iload_n 1, 1) := by decide +kernel
theorem dX5_fits_2 : decode cX5_fits 2 = .ok (.iload_n 2, 1) := by decide +kernel
theorem dX5_fits_3 : decode cX5_fits 3 = .ok (.invokevirtual 36, 3) := by decide +kernel
theorem dX5_fits_6 : decode cX5_fits 6 = .ok (.ifCond .eq 33, 3) := by decide +kernel
theorem dX5_fits_9 : decode cX5_fits 9 = .ok (.aload_n 0, 1) := by decide +kernel
theorem dX5_fits_10 : decode cX5_fits 10 = .ok (.getfield 20, 3) := by decide +kernel
theorem dX5_fits_13 : decode cX5_fits 13 = .ok (.iload_n 1, 1) := by decide +kernel
theorem dX5_fits_14 : decode cX5_fits 14 = .ok (.iaload, 1) := by decide +kernel
theorem dX5_fits_15 : decode cX5_fits 15 = .ok (.iload_n 3, 1) := by decide +kernel
theorem dX5_fits_16 : decode cX5_fits 16 = .ok (.iand, 1) := by decide +kernel
theorem dX5_fits_17 : decode cX5_fits 17 = .ok (.iload_n 3, 1) := by decide +kernel
theorem dX5_fits_18 : decode cX5_fits 18 = .ok (.if_icmp .ne 21, 3) := by decide +kernel
theorem dX5_fits_21 : decode cX5_fits 21 = .ok (.aload_n 0, 1) := by decide +kernel
theorem dX5_fits_22 : decode cX5_fits 22 = .ok (.getfield 23, 3) := by decide +kernel
theorem dX5_fits_25 : decode cX5_fits 25 = .ok (.iload_n 1, 1) := by decide +kernel
theorem dX5_fits_26 : decode cX5_fits 26 = .ok (.iaload, 1) := by decide +kernel
theorem dX5_fits_27 : decode cX5_fits 27 = .ok (.iload 4, 2) := by decide +kernel
theorem dX5_fits_29 : decode cX5_fits 29 = .ok (.iand, 1) := by decide +kernel
theorem dX5_fits_30 : decode cX5_fits 30 = .ok (.iload 4, 2) := by decide +kernel
theorem dX5_fits_32 : decode cX5_fits 32 = .ok (.if_icmp .ne 7, 3) := by decide +kernel
theorem dX5_fits_35 : decode cX5_fits 35 = .ok (.iconst 1, 1) := by decide +kernel
theorem dX5_fits_36 : decode cX5_fits 36 = .ok (.goto 4, 3) := by decide +kernel
theorem dX5_fits_39 : decode cX5_fits 39 = .ok (.iconst 0, 1) := by decide +kernel
theorem dX5_fits_40 : decode cX5_fits 40 = .ok (.ireturn, 1) := by decide +kernel
def rm_X5_fits : Room := { frames := 1, cells := 0, slots := 0, locals := 23 }
def W_X5_fits (E : en_T) (a_t a_t_kind a_t_yes a_t_no : Nat) (v_t_count : Int32) (v_t_missingRows : Int32) (v_t_kind : (Nat → Int32)) (v_t_no : (Nat → Int32)) (v_t_yes : (Nat → Int32)) : va_W := [(a_t, .inr (5, [.int v_t_count, .int v_t_missingRows, .ref a_t_kind, .ref a_t_yes, .ref a_t_no])), (a_t_kind, .inl (en_I E, 8, .inl v_t_kind)), (a_t_no, .inl (en_I E, 8, .inl v_t_no)), (a_t_yes, .inl (en_I E, 8, .inl v_t_yes))]
def F_X5_fits_0  (x1 : Int32) (x2 : Int32) (x3 : Int32) (x4 : Int32) (v_t_kind : (Nat → Int32)) (v_t_no : (Nat → Int32)) (v_t_yes : (Nat → Int32)) : Option (Int32) := bn1_ (F_X5_isOf x1 x2 v_t_kind) (fun y1 => if y1 = (0 : Int32) then (some ((0 : Int32))) else (ck_ x1 8 (if ((v_t_yes (Int32.toNatClampNeg x1)) &&& x3) = x3 then (ck_ x1 8 (if ((v_t_no (Int32.toNatClampNeg x1)) &&& x4) = x4 then (some ((1 : Int32))) else (some ((0 : Int32))))) else (some ((0 : Int32))))))
set_option maxHeartbeats 4000000 in
theorem w_X5_fits_0 {B : bu_T} {a_t a_t_kind a_t_yes a_t_no : Nat} {v_t_count : Int32} {v_t_missingRows : Int32} {v_t_kind : (Nat → Int32)} {v_t_no : (Nat → Int32)} {v_t_yes : (Nat → Int32)} {r : Int32}  (K : cx B cX5_fits "SoundDesk$Sounds" rm_X5_fits 5) (hQ : rt B cX5_fits 5 (some .boolean) rm_X5_fits (some (.int r)) (fun x => x = (W_X5_fits (bu_E B) a_t a_t_kind a_t_yes a_t_no v_t_count v_t_missingRows v_t_kind v_t_no v_t_yes))) {x1 : Int32} {x2 : Int32} {x3 : Int32} {x4 : Int32} (hF : F_X5_fits_0  x1 x2 x3 x4 v_t_kind v_t_no v_t_yes = some (r)) : gg B 5 0 0 0 [(0, .ref a_t), (1, .int x1), (2, .int x2), (3, .int x3), (4, .int x4)] [] (W_X5_fits (bu_E B) a_t a_t_kind a_t_yes a_t_no v_t_count v_t_missingRows v_t_kind v_t_no v_t_yes) := by
  unfold F_X5_fits_0 at hF
  refine gg_aload_n (pc := 0) K 0 dX5_fits_0 rfl rfl ?_
  refine gg_iload_n (pc := 1) K 1 dX5_fits_1 rfl rfl ?_
  refine gg_iload_n (pc := 2) K 2 dX5_fits_2 rfl rfl ?_
  obtain ⟨y1, hc2, hF⟩ := bn1_some hF
  refine gg_dV (pc := 3) (st' := [.int y1]) (rest := []) (w' := (W_X5_fits (bu_E B) a_t a_t_kind a_t_yes a_t_no v_t_count v_t_missingRows v_t_kind v_t_no v_t_yes)) K (c_X5_isOf (bu_l B) (bu_E B) a_t a_t_kind a_t_yes a_t_no x1 x2 v_t_count v_t_missingRows v_t_kind hc2) ⟨rfl, rfl⟩ q_2_94 q_2_95 q_2_96 q_1_4 q_2_97 n_X5_isOf ⟨(Nat.le_of_ble_eq_true rfl), (Nat.le_of_ble_eq_true rfl)⟩ (ci := 5) rfl 0 rfl [0, 1] [true, true, false, false] rfl rfl rfl rfl rfl rfl (by decide) rfl rfl rfl ⟨Nat.zero_le _, Nat.zero_le _⟩ (Nat.le_of_ble_eq_true rfl) dX5_fits_3 ?_
  refine gg_if_eq (pc := 6) K 39 dX5_fits_6 rfl hF (fun c3 hF => ?_) (fun c3 hF => ?_)
  · refine gg_iconst (v := (0 : Int32)) (pc := 39) K dX5_fits_39 (by decide) ?_
    cases hF
    exact (hQ _ _ _ rfl).2.1 _ _ rfl rfl rfl dX5_fits_40
  · refine gg_aload_n (pc := 9) K 0 dX5_fits_9 rfl rfl ?_
    refine gg_get (pc := 10) K 0 3 i_X5 rfl rfl (by decide) q_1_49 rfl dX5_fits_10 ?_
    refine gg_iload_n (pc := 13) K 1 dX5_fits_13 rfl rfl ?_
    refine gg_iald (pc := 14) K 3 rfl dX5_fits_14 hF (fun hF => ?_)
    refine gg_iload_n (pc := 15) K 3 dX5_fits_15 rfl rfl ?_
    refine gg_iand (pc := 16) K dX5_fits_16 ?_
    refine gg_iload_n (pc := 17) K 3 dX5_fits_17 rfl rfl ?_
    refine gg_icmp_ne (pc := 18) K 39 dX5_fits_18 rfl hF (fun c4 hF => ?_) (fun c4 hF => ?_)
    · refine gg_iconst (v := (0 : Int32)) (pc := 39) K dX5_fits_39 (by decide) ?_
      cases hF
      exact (hQ _ _ _ rfl).2.1 _ _ rfl rfl rfl dX5_fits_40
    · refine gg_aload_n (pc := 21) K 0 dX5_fits_21 rfl rfl ?_
      refine gg_get (pc := 22) K 0 4 i_X5 rfl rfl (by decide) q_1_50 rfl dX5_fits_22 ?_
      refine gg_iload_n (pc := 25) K 1 dX5_fits_25 rfl rfl ?_
      refine gg_iald (pc := 26) K 2 rfl dX5_fits_26 hF (fun hF => ?_)
      refine gg_iload (pc := 27) K 4 dX5_fits_27 rfl ?_
      refine gg_iand (pc := 29) K dX5_fits_29 ?_
      refine gg_iload (pc := 30) K 4 dX5_fits_30 rfl ?_
      refine gg_icmp_ne (pc := 32) K 39 dX5_fits_32 rfl hF (fun c5 hF => ?_) (fun c5 hF => ?_)
      · refine gg_iconst (v := (0 : Int32)) (pc := 39) K dX5_fits_39 (by decide) ?_
        cases hF
        exact (hQ _ _ _ rfl).2.1 _ _ rfl rfl rfl dX5_fits_40
      · refine gg_iconst (v := (1 : Int32)) (pc := 35) K dX5_fits_35 (by decide) ?_
        refine gg_goto (pc := 36) K 40 dX5_fits_36 rfl ?_
        cases hF
        exact (hQ _ _ _ rfl).2.1 _ _ rfl rfl rfl dX5_fits_40
def F_X5_fits (x1 : Int32) (x2 : Int32) (x3 : Int32) (x4 : Int32) (v_t_kind : (Nat → Int32)) (v_t_no : (Nat → Int32)) (v_t_yes : (Nat → Int32)) : Option (Int32) := F_X5_fits_0 x1 x2 x3 x4 v_t_kind v_t_no v_t_yes
theorem n_X5_fits : yX5_fits.cls = "SoundDesk$Sounds" ∧ yX5_fits.cls ≠ "java/lang/invoke/MethodHandle" ∧ yX5_fits.cls ≠ "java/lang/invoke/VarHandle" ∧ (parseMethodDescriptor yX5_fits.desc).map (fun d => d.parameters.length) = some 4 := by decide +kernel
theorem c_X5_fits (l : Launch) (E : en_T) (a_t a_t_kind a_t_yes a_t_no : Nat) (x1 : Int32) (x2 : Int32) (x3 : Int32) (x4 : Int32) (v_t_count : Int32) (v_t_missingRows : Int32) (v_t_kind : (Nat → Int32)) (v_t_no : (Nat → Int32)) (v_t_yes : (Nat → Int32)) {r : Int32}  (hF : F_X5_fits x1 x2 x3 x4 v_t_kind v_t_no v_t_yes = some (r)) : ct l yX5_fits cX5_fits 5 (some .boolean) rm_X5_fits E [.ref a_t, .int x1, .int x2, .int x3, .int x4] (W_X5_fits E a_t a_t_kind a_t_yes a_t_no v_t_count v_t_missingRows v_t_kind v_t_no v_t_yes) (some (.int r)) (fun x => x = (W_X5_fits E a_t a_t_kind a_t_yes a_t_no v_t_count v_t_missingRows v_t_kind v_t_no v_t_yes)) := by
  refine ct_of (by decide +kernel) (Nat.le_of_ble_eq_true rfl) (fun B hl hE _ K hQ => ?_)
  subst hl; subst hE
  refine gg_sub (lv' := [(0, .ref a_t), (1, .int x1), (2, .int x2), (3, .int x3), (4, .int x4)]) [0, 1, 2, 3, 4] rfl ?_
  exact w_X5_fits_0 K hQ hF
theorem dX5_isRow_0 : decode cX5_isRow 0 = .ok (.iload_n 0, 1) := by decide +kernel
theorem dX5_isRow_1 : decode cX5_isRow 1 = .ok (.iconst (-1), 1) := by decide +kernel
theorem dX5_isRow_2 : decode cX5_isRow 2 = .ok (.if_icmp .ne 10, 3) := by decide +kernel
theorem dX5_isRow_5 : decode cX5_isRow 5 = .ok (.iload_n 1, 1) := by decide +kernel
theorem dX5_isRow_6 : decode cX5_isRow 6 = .ok (.iconst (-1), 1) := by decide +kernel
theorem dX5_isRow_7 : decode cX5_isRow 7 = .ok (.if_icmp .ne 5, 3) := by decide +kernel
theorem dX5_isRow_10 : decode cX5_isRow 10 = .ok (.iconst 1, 1) := by decide +kernel
theorem dX5_isRow_11 : decode cX5_isRow 11 = .ok (.ireturn, 1) := by decide +kernel
theorem dX5_isRow_12 : decode cX5_isRow 12 = .ok (.iload_n 0, 1) := by decide +kernel
theorem dX5_isRow_13 : decode cX5_isRow 13 = .ok (.invokestatic 26, 3) := by decide +kernel
theorem dX5_isRow_16 : decode cX5_isRow 16 = .ok (.ifCond .eq 20, 3) := by decide +kernel
theorem dX5_isRow_19 : decode cX5_isRow 19 = .ok (.iload_n 1, 1) := by decide +kernel
theorem dX5_isRow_20 : decode cX5_isRow 20 = .ok (.invokestatic 26, 3) := by decide +kernel
theorem dX5_isRow_23 : decode cX5_isRow 23 = .ok (.ifCond .eq 13, 3) := by decide +kernel
theorem dX5_isRow_26 : decode cX5_isRow 26 = .ok (.iload_n 0, 1) := by decide +kernel
theorem dX5_isRow_27 : decode cX5_isRow 27 = .ok (.iload_n 1, 1) := by decide +kernel
theorem dX5_isRow_28 : decode cX5_isRow 28 = .ok (.iand, 1) := by decide +kernel
theorem dX5_isRow_29 : decode cX5_isRow 29 = .ok (.ifCond .ne 7, 3) := by decide +kernel
theorem dX5_isRow_32 : decode cX5_isRow 32 = .ok (.iconst 1, 1) := by decide +kernel
theorem dX5_isRow_33 : decode cX5_isRow 33 = .ok (.goto 4, 3) := by decide +kernel
theorem dX5_isRow_36 : decode cX5_isRow 36 = .ok (.iconst 0, 1) := by decide +kernel
theorem dX5_isRow_37 : decode cX5_isRow 37 = .ok (.ireturn, 1) := by decide +kernel
def rm_X5_isRow : Room := { frames := 1, cells := 0, slots := 0, locals := 20 }
def F_X5_isRow_12  (x0 : Int32) (x1 : Int32) : Option (Int32) := bn1_ (F_X5_isMarks x0) (fun y1 => if y1 = (0 : Int32) then (some ((0 : Int32))) else (bn1_ (F_X5_isMarks x1) (fun y4 => if y4 = (0 : Int32) then (some ((0 : Int32))) else (if (x0 &&& x1) = (0 : Int32) then (some ((1 : Int32))) else (some ((0 : Int32)))))))
set_option maxHeartbeats 4000000 in
theorem w_X5_isRow_12 {B : bu_T} {r : Int32}  (K : cx B cX5_isRow "SoundDesk$Sounds" rm_X5_isRow 2) (hQ : rt B cX5_isRow 2 (some .boolean) rm_X5_isRow (some (.int r)) (fun x => x = [])) {x0 : Int32} {x1 : Int32} (hF : F_X5_isRow_12  x0 x1 = some (r)) : gg B 2 0 0 12 [(0, .int x0), (1, .int x1)] [] [] := by
  unfold F_X5_isRow_12 at hF
  refine gg_iload_n (pc := 12) K 0 dX5_isRow_12 rfl rfl ?_
  obtain ⟨y1, hc2, hF⟩ := bn1_some hF
  refine gg_dS (pc := 13) (st' := [.int y1]) (rest := []) (w' := []) K (c_X5_isMarks (bu_l B) (bu_E B) x0 hc2) ⟨rfl, rfl⟩ q_2_71 q_2_72 q_1_4 q_2_73 n_X5_isMarks ⟨(Nat.le_of_ble_eq_true rfl), (Nat.le_of_ble_eq_true rfl)⟩ [] [] rfl rfl rfl rfl rfl rfl (by decide) rfl rfl rfl ⟨Nat.zero_le _, Nat.zero_le _⟩ (Nat.le_of_ble_eq_true rfl) dX5_isRow_13 ?_
  refine gg_if_eq (pc := 16) K 36 dX5_isRow_16 rfl hF (fun c3 hF => ?_) (fun c3 hF => ?_)
  · refine gg_iconst (v := (0 : Int32)) (pc := 36) K dX5_isRow_36 (by decide) ?_
    cases hF
    exact (hQ _ _ _ rfl).2.1 _ _ rfl rfl rfl dX5_isRow_37
  · refine gg_iload_n (pc := 19) K 1 dX5_isRow_19 rfl rfl ?_
    obtain ⟨y4, hc5, hF⟩ := bn1_some hF
    refine gg_dS (pc := 20) (st' := [.int y4]) (rest := []) (w' := []) K (c_X5_isMarks (bu_l B) (bu_E B) x1 hc5) ⟨rfl, rfl⟩ q_2_71 q_2_72 q_1_4 q_2_73 n_X5_isMarks ⟨(Nat.le_of_ble_eq_true rfl), (Nat.le_of_ble_eq_true rfl)⟩ [] [] rfl rfl rfl rfl rfl rfl (by decide) rfl rfl rfl ⟨Nat.zero_le _, Nat.zero_le _⟩ (Nat.le_of_ble_eq_true rfl) dX5_isRow_20 ?_
    refine gg_if_eq (pc := 23) K 36 dX5_isRow_23 rfl hF (fun c6 hF => ?_) (fun c6 hF => ?_)
    · refine gg_iconst (v := (0 : Int32)) (pc := 36) K dX5_isRow_36 (by decide) ?_
      cases hF
      exact (hQ _ _ _ rfl).2.1 _ _ rfl rfl rfl dX5_isRow_37
    · refine gg_iload_n (pc := 26) K 0 dX5_isRow_26 rfl rfl ?_
      refine gg_iload_n (pc := 27) K 1 dX5_isRow_27 rfl rfl ?_
      refine gg_iand (pc := 28) K dX5_isRow_28 ?_
      refine gg_if_ne (pc := 29) K 36 dX5_isRow_29 rfl hF (fun c7 hF => ?_) (fun c7 hF => ?_)
      · refine gg_iconst (v := (0 : Int32)) (pc := 36) K dX5_isRow_36 (by decide) ?_
        cases hF
        exact (hQ _ _ _ rfl).2.1 _ _ rfl rfl rfl dX5_isRow_37
      · refine gg_iconst (v := (1 : Int32)) (pc := 32) K dX5_isRow_32 (by decide) ?_
        refine gg_goto (pc := 33) K 37 dX5_isRow_33 rfl ?_
        cases hF
        exact (hQ _ _ _ rfl).2.1 _ _ rfl rfl rfl dX5_isRow_37
def F_X5_isRow_0  (x0 : Int32) (x1 : Int32) : Option (Int32) := if x0 = (-1 : Int32) then (if x1 = (-1 : Int32) then (some ((1 : Int32))) else (F_X5_isRow_12  x0 x1)) else (F_X5_isRow_12  x0 x1)
set_option maxHeartbeats 4000000 in
theorem w_X5_isRow_0 {B : bu_T} {r : Int32}  (K : cx B cX5_isRow "SoundDesk$Sounds" rm_X5_isRow 2) (hQ : rt B cX5_isRow 2 (some .boolean) rm_X5_isRow (some (.int r)) (fun x => x = [])) {x0 : Int32} {x1 : Int32} (hF : F_X5_isRow_0  x0 x1 = some (r)) : gg B 2 0 0 0 [(0, .int x0), (1, .int x1)] [] [] := by
  unfold F_X5_isRow_0 at hF
  refine gg_iload_n (pc := 0) K 0 dX5_isRow_0 rfl rfl ?_
  refine gg_iconst (v := (-1 : Int32)) (pc := 1) K dX5_isRow_1 (by decide) ?_
  refine gg_icmp_ne (pc := 2) K 12 dX5_isRow_2 rfl hF (fun c8 hF => ?_) (fun c8 hF => ?_)
  · exact w_X5_isRow_12 K hQ  hF
  · refine gg_iload_n (pc := 5) K 1 dX5_isRow_5 rfl rfl ?_
    refine gg_iconst (v := (-1 : Int32)) (pc := 6) K dX5_isRow_6 (by decide) ?_
    refine gg_icmp_ne (pc := 7) K 12 dX5_isRow_7 rfl hF (fun c9 hF => ?_) (fun c9 hF => ?_)
    · exact w_X5_isRow_12 K hQ  hF
    · refine gg_iconst (v := (1 : Int32)) (pc := 10) K dX5_isRow_10 (by decide) ?_
      cases hF
      exact (hQ _ _ _ rfl).2.1 _ _ rfl rfl rfl dX5_isRow_11
def F_X5_isRow (x0 : Int32) (x1 : Int32)  : Option (Int32) := F_X5_isRow_0 x0 x1
theorem n_X5_isRow : yX5_isRow.cls ≠ "java/lang/invoke/MethodHandle" ∧ yX5_isRow.cls ≠ "java/lang/invoke/VarHandle" ∧ (parseMethodDescriptor yX5_isRow.desc).map (fun d => d.parameters.length) = some 2 := by decide +kernel
theorem c_X5_isRow (l : Launch) (E : en_T) (x0 : Int32) (x1 : Int32)  {r : Int32}  (hF : F_X5_isRow x0 x1  = some (r)) : ct l yX5_isRow cX5_isRow 2 (some .boolean) rm_X5_isRow E [.int x0, .int x1] [] (some (.int r)) (fun x => x = []) := by
  refine ct_of (by decide +kernel) (Nat.le_of_ble_eq_true rfl) (fun B hl hE _ K hQ => ?_)
  subst hl; subst hE
  refine gg_sub (lv' := [(0, .int x0), (1, .int x1)]) [0, 1] rfl ?_
  exact w_X5_isRow_0 K hQ hF
theorem dX5_copyFrom_0 : decode cX5_copyFrom 0 = .ok (.aload_n 0, 1) := by decide +kernel
theorem dX5_copyFrom_1 : decode cX5_copyFrom 1 = .ok (.aload_n 1, 1) := by decide +kernel
theorem dX5_copyFrom_2 : decode cX5_copyFrom 2 = .ok (.getfield 7, 3) := by decide +kernel
theorem dX5_copyFrom_5 : decode cX5_copyFrom 5 = .ok (.putfield 7, 3) := by decide +kernel
theorem dX5_copyFrom_8 : decode cX5_copyFrom 8 = .ok (.aload_n 0, 1) := by decide +kernel
theorem dX5_copyFrom_9 : decode cX5_copyFrom 9 = .ok (.aload_n 1, 1) := by decide +kernel
theorem dX5_copyFrom_10 : decode cX5_copyFrom 10 = .ok (.getfield 13, 3) := by decide +kernel
theorem dX5_copyFrom_13 : decode cX5_copyFrom 13 = .ok (.putfield 13, 3) := by decide +kernel
theorem dX5_copyFrom_16 : decode cX5_copyFrom 16 = .ok (.aload_n 1, 1) := by decide +kernel
theorem dX5_copyFrom_17 : decode cX5_copyFrom 17 = .ok (.getfield 16, 3) := by decide +kernel
theorem dX5_copyFrom_20 : decode cX5_copyFrom 20 = .ok (.iconst 0, 1) := by decide +kernel
theorem dX5_copyFrom_21 : decode cX5_copyFrom 21 = .ok (.aload_n 0, 1) := by decide +kernel
theorem dX5_copyFrom_22 : decode cX5_copyFrom 22 = .ok (.getfield 16, 3) := by decide +kernel
theorem dX5_copyFrom_25 : decode cX5_copyFrom 25 = .ok (.iconst 0, 1) := by decide +kernel
theorem dX5_copyFrom_26 : decode cX5_copyFrom 26 = .ok (.bipush 8, 2) := by decide +kernel
theorem dX5_copyFrom_28 : decode cX5_copyFrom 28 = .ok (.invokestatic 30, 3) := by decide +kernel
theorem dX5_copyFrom_31 : decode cX5_copyFrom 31 = .ok (.aload_n 1, 1) := by decide +kernel
theorem dX5_copyFrom_32 : decode cX5_copyFrom 32 = .ok (.getfield 20, 3) := by decide +kernel
theorem dX5_copyFrom_35 : decode cX5_copyFrom 35 = .ok (.iconst 0, 1) := by decide +kernel
theorem dX5_copyFrom_36 : decode cX5_copyFrom 36 = .ok (.aload_n 0, 1) := by decide +kernel
theorem dX5_copyFrom_37 : decode cX5_copyFrom 37 = .ok (.getfield 20, 3) := by decide +kernel
theorem dX5_copyFrom_40 : decode cX5_copyFrom 40 = .ok (.iconst 0, 1) := by decide +kernel
theorem dX5_copyFrom_41 : decode cX5_copyFrom 41 = .ok (.bipush 8, 2) := by decide +kernel
theorem dX5_copyFrom_43 : decode cX5_copyFrom 43 = .ok (.invokestatic 30, 3) := by decide +kernel
theorem dX5_copyFrom_46 : decode cX5_copyFrom 46 = .ok (.aload_n 1, 1) := by decide +kernel
theorem dX5_copyFrom_47 : decode cX5_copyFrom 47 = .ok (.getfield 23, 3) := by decide +kernel
theorem dX5_copyFrom_50 : decode cX5_copyFrom 50 = .ok (.iconst 0, 1) := by decide +kernel
theorem dX5_copyFrom_51 : decode cX5_copyFrom 51 = .ok (.aload_n 0, 1) := by decide +kernel
theorem dX5_copyFrom_52 : decode cX5_copyFrom 52 = .ok (.getfield 23, 3) := by decide +kernel
theorem dX5_copyFrom_55 : decode cX5_copyFrom 55 = .ok (.iconst 0, 1) := by decide +kernel
theorem dX5_copyFrom_56 : decode cX5_copyFrom 56 = .ok (.bipush 8, 2) := by decide +kernel
theorem dX5_copyFrom_58 : decode cX5_copyFrom 58 = .ok (.invokestatic 30, 3) := by decide +kernel
theorem dX5_copyFrom_61 : decode cX5_copyFrom 61 = .ok (.return_, 1) := by decide +kernel
def rm_X5_copyFrom : Room := { frames := 1, cells := 0, slots := 0, locals := 60 }
def W_X5_copyFrom (E : en_T) (a_p1 a_p1_kind a_p1_yes a_p1_no a_t a_t_kind a_t_yes a_t_no : Nat) (v_p1_count : Int32) (v_p1_missingRows : Int32) (v_p1_kind : (Nat → Int32)) (v_p1_no : (Nat → Int32)) (v_p1_yes : (Nat → Int32)) (v_t_count : Int32) (v_t_missingRows : Int32) (v_t_kind : (Nat → Int32)) (v_t_no : (Nat → Int32)) (v_t_yes : (Nat → Int32)) : va_W := [(a_p1, .inr (5, [.int v_p1_count, .int v_p1_missingRows, .ref a_p1_kind, .ref a_p1_yes, .ref a_p1_no])), (a_p1_kind, .inl (en_I E, 8, .inl v_p1_kind)), (a_p1_no, .inl (en_I E, 8, .inl v_p1_no)), (a_p1_yes, .inl (en_I E, 8, .inl v_p1_yes)), (a_t, .inr (5, [.int v_t_count, .int v_t_missingRows, .ref a_t_kind, .ref a_t_yes, .ref a_t_no])), (a_t_kind, .inl (en_I E, 8, .inl v_t_kind)), (a_t_no, .inl (en_I E, 8, .inl v_t_no)), (a_t_yes, .inl (en_I E, 8, .inl v_t_yes))]
def F_X5_copyFrom_0  (v_p1_count : Int32) (v_p1_missingRows : Int32) (v_p1_kind : (Nat → Int32)) (v_p1_no : (Nat → Int32)) (v_p1_yes : (Nat → Int32)) (v_t_count : Int32) (v_t_missingRows : Int32) (v_t_kind : (Nat → Int32)) (v_t_no : (Nat → Int32)) (v_t_yes : (Nat → Int32)) : Option (Int32 × Int32 × (Nat → Int32) × (Nat → Int32) × (Nat → Int32)) := lt_ v_p1_count (fun y1 => lt_ v_p1_missingRows (fun y2 => cp_ (0 : Int32) (0 : Int32) (8 : Int32) 8 8 (lt_ (va_cpy v_p1_kind v_t_kind (Int32.toNatClampNeg (0 : Int32)) (Int32.toNatClampNeg (0 : Int32)) (Int32.toNatClampNeg (8 : Int32))) (fun f3 => cp_ (0 : Int32) (0 : Int32) (8 : Int32) 8 8 (lt_ (va_cpy v_p1_yes v_t_yes (Int32.toNatClampNeg (0 : Int32)) (Int32.toNatClampNeg (0 : Int32)) (Int32.toNatClampNeg (8 : Int32))) (fun f4 => cp_ (0 : Int32) (0 : Int32) (8 : Int32) 8 8 (lt_ (va_cpy v_p1_no v_t_no (Int32.toNatClampNeg (0 : Int32)) (Int32.toNatClampNeg (0 : Int32)) (Int32.toNatClampNeg (8 : Int32))) (fun f5 => some (y1, y2, f3, f5, f4)))))))))
set_option maxHeartbeats 4000000 in
theorem w_X5_copyFrom_0 {B : bu_T} {a_p1 a_p1_kind a_p1_yes a_p1_no a_t a_t_kind a_t_yes a_t_no : Nat} {v_p1_count : Int32} {v_p1_missingRows : Int32} {v_p1_kind : (Nat → Int32)} {v_p1_no : (Nat → Int32)} {v_p1_yes : (Nat → Int32)} {v_t_count : Int32} {v_t_missingRows : Int32} {v_t_kind : (Nat → Int32)} {v_t_no : (Nat → Int32)} {v_t_yes : (Nat → Int32)} {o_t_count : Int32} {o_t_missingRows : Int32} {o_t_kind : (Nat → Int32)} {o_t_no : (Nat → Int32)} {o_t_yes : (Nat → Int32)} (K : cx B cX5_copyFrom "SoundDesk$Sounds" rm_X5_copyFrom 2) (hQ : rt B cX5_copyFrom 2 none rm_X5_copyFrom none (fun x => x = (W_X5_copyFrom (bu_E B) a_p1 a_p1_kind a_p1_yes a_p1_no a_t a_t_kind a_t_yes a_t_no v_p1_count v_p1_missingRows v_p1_kind v_p1_no v_p1_yes o_t_count o_t_missingRows o_t_kind o_t_no o_t_yes)))  (hF : F_X5_copyFrom_0  v_p1_count v_p1_missingRows v_p1_kind v_p1_no v_p1_yes v_t_count v_t_missingRows v_t_kind v_t_no v_t_yes = some (o_t_count, o_t_missingRows, o_t_kind, o_t_no, o_t_yes)) : gg B 2 0 0 0 [(0, .ref a_t), (1, .ref a_p1)] [] (W_X5_copyFrom (bu_E B) a_p1 a_p1_kind a_p1_yes a_p1_no a_t a_t_kind a_t_yes a_t_no v_p1_count v_p1_missingRows v_p1_kind v_p1_no v_p1_yes v_t_count v_t_missingRows v_t_kind v_t_no v_t_yes) := by
  unfold F_X5_copyFrom_0 at hF
  refine gg_aload_n (pc := 0) K 0 dX5_copyFrom_0 rfl rfl ?_
  refine gg_aload_n (pc := 1) K 1 dX5_copyFrom_1 rfl rfl ?_
  refine gg_get (pc := 2) K 0 0 i_X5 rfl rfl (by decide) q_1_43 rfl dX5_copyFrom_2 ?_
  refine gg_puti (pc := 5) (wf := fun zz => (W_X5_copyFrom (bu_E B) a_p1 a_p1_kind a_p1_yes a_p1_no a_t a_t_kind a_t_yes a_t_no v_p1_count v_p1_missingRows v_p1_kind v_p1_no v_p1_yes zz v_t_missingRows v_t_kind v_t_no v_t_yes)) K 4 0 i_X5 tyX5_ok nmX5 rfl rfl (by decide) q_1_43 rfl (by decide +kernel) (Nat.le_of_ble_eq_true rfl) dX5_copyFrom_5 hF (fun _ => rfl) (fun y1 ey1 hF => ?_)
  refine gg_aload_n (pc := 8) K 0 dX5_copyFrom_8 rfl rfl ?_
  refine gg_aload_n (pc := 9) K 1 dX5_copyFrom_9 rfl rfl ?_
  refine gg_get (pc := 10) K 0 1 i_X5 rfl rfl (by decide) q_1_47 rfl dX5_copyFrom_10 ?_
  refine gg_puti (pc := 13) (wf := fun zz => (W_X5_copyFrom (bu_E B) a_p1 a_p1_kind a_p1_yes a_p1_no a_t a_t_kind a_t_yes a_t_no v_p1_count v_p1_missingRows v_p1_kind v_p1_no v_p1_yes y1 zz v_t_kind v_t_no v_t_yes)) K 4 1 i_X5 tyX5_ok nmX5 rfl rfl (by decide) q_1_47 rfl (by decide +kernel) (Nat.le_of_ble_eq_true rfl) dX5_copyFrom_13 hF (fun _ => rfl) (fun y2 ey2 hF => ?_)
  refine gg_aload_n (pc := 16) K 1 dX5_copyFrom_16 rfl rfl ?_
  refine gg_get (pc := 17) K 0 2 i_X5 rfl rfl (by decide) q_1_48 rfl dX5_copyFrom_17 ?_
  refine gg_iconst (v := (0 : Int32)) (pc := 20) K dX5_copyFrom_20 (by decide) ?_
  refine gg_aload_n (pc := 21) K 0 dX5_copyFrom_21 rfl rfl ?_
  refine gg_get (pc := 22) K 4 2 i_X5 rfl rfl (by decide) q_1_48 rfl dX5_copyFrom_22 ?_
  refine gg_iconst (v := (0 : Int32)) (pc := 25) K dX5_copyFrom_25 (by decide) ?_
  refine gg_bipush (v := (8 : Int32)) (pc := 26) K dX5_copyFrom_26 (by decide) ?_
  refine gg_cpyi (pc := 28) (wf := fun zz => (W_X5_copyFrom (bu_E B) a_p1 a_p1_kind a_p1_yes a_p1_no a_t a_t_kind a_t_yes a_t_no v_p1_count v_p1_missingRows v_p1_kind v_p1_no v_p1_yes y1 y2 zz v_t_no v_t_yes)) K 1 5 0 (fun h => h) rfl rfl rfl rfl (fun _ _ => rfl) q_4_37 q_2_205 q_2_204 q_1_12 (Nat.le_of_ble_eq_true rfl) (Nat.le_of_ble_eq_true rfl) dX5_copyFrom_28 hF (fun _ => rfl) (fun f3 ef3 hF => ?_)
  refine gg_aload_n (pc := 31) K 1 dX5_copyFrom_31 rfl rfl ?_
  refine gg_get (pc := 32) K 0 3 i_X5 rfl rfl (by decide) q_1_49 rfl dX5_copyFrom_32 ?_
  refine gg_iconst (v := (0 : Int32)) (pc := 35) K dX5_copyFrom_35 (by decide) ?_
  refine gg_aload_n (pc := 36) K 0 dX5_copyFrom_36 rfl rfl ?_
  refine gg_get (pc := 37) K 4 3 i_X5 rfl rfl (by decide) q_1_49 rfl dX5_copyFrom_37 ?_
  refine gg_iconst (v := (0 : Int32)) (pc := 40) K dX5_copyFrom_40 (by decide) ?_
  refine gg_bipush (v := (8 : Int32)) (pc := 41) K dX5_copyFrom_41 (by decide) ?_
  refine gg_cpyi (pc := 43) (wf := fun zz => (W_X5_copyFrom (bu_E B) a_p1 a_p1_kind a_p1_yes a_p1_no a_t a_t_kind a_t_yes a_t_no v_p1_count v_p1_missingRows v_p1_kind v_p1_no v_p1_yes y1 y2 f3 v_t_no zz)) K 3 7 0 (fun h => h) rfl rfl rfl rfl (fun _ _ => rfl) q_4_37 q_2_205 q_2_204 q_1_12 (Nat.le_of_ble_eq_true rfl) (Nat.le_of_ble_eq_true rfl) dX5_copyFrom_43 hF (fun _ => rfl) (fun f4 ef4 hF => ?_)
  refine gg_aload_n (pc := 46) K 1 dX5_copyFrom_46 rfl rfl ?_
  refine gg_get (pc := 47) K 0 4 i_X5 rfl rfl (by decide) q_1_50 rfl dX5_copyFrom_47 ?_
  refine gg_iconst (v := (0 : Int32)) (pc := 50) K dX5_copyFrom_50 (by decide) ?_
  refine gg_aload_n (pc := 51) K 0 dX5_copyFrom_51 rfl rfl ?_
  refine gg_get (pc := 52) K 4 4 i_X5 rfl rfl (by decide) q_1_50 rfl dX5_copyFrom_52 ?_
  refine gg_iconst (v := (0 : Int32)) (pc := 55) K dX5_copyFrom_55 (by decide) ?_
  refine gg_bipush (v := (8 : Int32)) (pc := 56) K dX5_copyFrom_56 (by decide) ?_
  refine gg_cpyi (pc := 58) (wf := fun zz => (W_X5_copyFrom (bu_E B) a_p1 a_p1_kind a_p1_yes a_p1_no a_t a_t_kind a_t_yes a_t_no v_p1_count v_p1_missingRows v_p1_kind v_p1_no v_p1_yes y1 y2 f3 zz f4)) K 2 6 0 (fun h => h) rfl rfl rfl rfl (fun _ _ => rfl) q_4_37 q_2_205 q_2_204 q_1_12 (Nat.le_of_ble_eq_true rfl) (Nat.le_of_ble_eq_true rfl) dX5_copyFrom_58 hF (fun _ => rfl) (fun f5 ef5 hF => ?_)
  cases hF
  exact (hQ _ _ _ rfl).1 rfl rfl dX5_copyFrom_61
def F_X5_copyFrom  (v_p1_count : Int32) (v_p1_missingRows : Int32) (v_p1_kind : (Nat → Int32)) (v_p1_no : (Nat → Int32)) (v_p1_yes : (Nat → Int32)) (v_t_count : Int32) (v_t_missingRows : Int32) (v_t_kind : (Nat → Int32)) (v_t_no : (Nat → Int32)) (v_t_yes : (Nat → Int32)) : Option (Int32 × Int32 × (Nat → Int32) × (Nat → Int32) × (Nat → Int32)) := F_X5_copyFrom_0 v_p1_count v_p1_missingRows v_p1_kind v_p1_no v_p1_yes v_t_count v_t_missingRows v_t_kind v_t_no v_t_yes
theorem n_X5_copyFrom : yX5_copyFrom.cls = "SoundDesk$Sounds" ∧ yX5_copyFrom.cls ≠ "java/lang/invoke/MethodHandle" ∧ yX5_copyFrom.cls ≠ "java/lang/invoke/VarHandle" ∧ (parseMethodDescriptor yX5_copyFrom.desc).map (fun d => d.parameters.length) = some 1 := by decide +kernel
theorem c_X5_copyFrom (l : Launch) (E : en_T) (a_p1 a_p1_kind a_p1_yes a_p1_no a_t a_t_kind a_t_yes a_t_no : Nat)  (v_p1_count : Int32) (v_p1_missingRows : Int32) (v_p1_kind : (Nat → Int32)) (v_p1_no : (Nat → Int32)) (v_p1_yes : (Nat → Int32)) (v_t_count : Int32) (v_t_missingRows : Int32) (v_t_kind : (Nat → Int32)) (v_t_no : (Nat → Int32)) (v_t_yes : (Nat → Int32)) {o_t_count : Int32} {o_t_missingRows : Int32} {o_t_kind : (Nat → Int32)} {o_t_no : (Nat → Int32)} {o_t_yes : (Nat → Int32)} (hF : F_X5_copyFrom  v_p1_count v_p1_missingRows v_p1_kind v_p1_no v_p1_yes v_t_count v_t_missingRows v_t_kind v_t_no v_t_yes = some (o_t_count, o_t_missingRows, o_t_kind, o_t_no, o_t_yes)) : ct l yX5_copyFrom cX5_copyFrom 2 none rm_X5_copyFrom E [.ref a_t, .ref a_p1] (W_X5_copyFrom E a_p1 a_p1_kind a_p1_yes a_p1_no a_t a_t_kind a_t_yes a_t_no v_p1_count v_p1_missingRows v_p1_kind v_p1_no v_p1_yes v_t_count v_t_missingRows v_t_kind v_t_no v_t_yes) none (fun x => x = (W_X5_copyFrom E a_p1 a_p1_kind a_p1_yes a_p1_no a_t a_t_kind a_t_yes a_t_no v_p1_count v_p1_missingRows v_p1_kind v_p1_no v_p1_yes o_t_count o_t_missingRows o_t_kind o_t_no o_t_yes)) := by
  refine ct_of (by decide +kernel) (Nat.le_of_ble_eq_true rfl) (fun B hl hE _ K hQ => ?_)
  subst hl; subst hE
  refine gg_sub (lv' := [(0, .ref a_t), (1, .ref a_p1)]) [0, 1] rfl ?_
  exact w_X5_copyFrom_0 K hQ hF
theorem dX5_has_0 : decode cX5_has 0 = .ok (.iload_n 1, 1) := by decide +kernel
theorem dX5_has_1 : decode cX5_has 1 = .ok (.ifCond .lt 15, 3) := by decide +kernel
theorem dX5_has_4 : decode cX5_has 4 = .ok (.iload_n 1, 1) := by decide +kernel
theorem dX5_has_5 : decode cX5_has 5 = .ok (.aload_n 0, 1) := by decide +kernel
theorem dX5_has_6 : decode cX5_has 6 = .ok (.getfield 7, 3) := by decide +kernel
theorem dX5_has_9 : decode cX5_has 9 = .ok (.if_icmp .ge 7, 3) := by decide +kernel
theorem dX5_has_12 : decode cX5_has 12 = .ok (.iconst 1, 1) := by decide +kernel
theorem dX5_has_13 : decode cX5_has 13 = .ok (.goto 4, 3) := by decide +kernel
theorem dX5_has_16 : decode cX5_has 16 = .ok (.iconst 0, 1) := by decide +kernel
theorem dX5_has_17 : decode cX5_has 17 = .ok (.ireturn, 1) := by decide +kernel
def rm_X5_has : Room := { frames := 0, cells := 0, slots := 0, locals := 0 }
def W_X5_has (E : en_T) (a_t a_t_kind a_t_yes a_t_no : Nat) (v_t_count : Int32) (v_t_missingRows : Int32) : va_W := [(a_t, .inr (5, [.int v_t_count, .int v_t_missingRows, .ref a_t_kind, .ref a_t_yes, .ref a_t_no]))]
def F_X5_has_0  (x1 : Int32) (v_t_count : Int32) : Option (Int32) := if x1 < (0 : Int32) then (some ((0 : Int32))) else (if v_t_count ≤ x1 then (some ((0 : Int32))) else (some ((1 : Int32))))
set_option maxHeartbeats 4000000 in
theorem w_X5_has_0 {B : bu_T} {a_t a_t_kind a_t_yes a_t_no : Nat} {v_t_count : Int32} {v_t_missingRows : Int32} {r : Int32}  (K : cx B cX5_has "SoundDesk$Sounds" rm_X5_has 2) (hQ : rt B cX5_has 2 (some .boolean) rm_X5_has (some (.int r)) (fun x => x = (W_X5_has (bu_E B) a_t a_t_kind a_t_yes a_t_no v_t_count v_t_missingRows))) {x1 : Int32} (hF : F_X5_has_0  x1 v_t_count = some (r)) : gg B 2 0 0 0 [(0, .ref a_t), (1, .int x1)] [] (W_X5_has (bu_E B) a_t a_t_kind a_t_yes a_t_no v_t_count v_t_missingRows) := by
  unfold F_X5_has_0 at hF
  refine gg_iload_n (pc := 0) K 1 dX5_has_0 rfl rfl ?_
  refine gg_if_lt (pc := 1) K 16 dX5_has_1 rfl hF (fun c1 hF => ?_) (fun c1 hF => ?_)
  · refine gg_iconst (v := (0 : Int32)) (pc := 16) K dX5_has_16 (by decide) ?_
    cases hF
    exact (hQ _ _ _ rfl).2.1 _ _ rfl rfl rfl dX5_has_17
  · refine gg_iload_n (pc := 4) K 1 dX5_has_4 rfl rfl ?_
    refine gg_aload_n (pc := 5) K 0 dX5_has_5 rfl rfl ?_
    refine gg_get (pc := 6) K 0 0 i_X5 rfl rfl (by decide) q_1_43 rfl dX5_has_6 ?_
    refine gg_icmp_ge (pc := 9) K 16 dX5_has_9 rfl hF (fun c2 hF => ?_) (fun c2 hF => ?_)
    · refine gg_iconst (v := (0 : Int32)) (pc := 16) K dX5_has_16 (by decide) ?_
      cases hF
      exact (hQ _ _ _ rfl).2.1 _ _ rfl rfl rfl dX5_has_17
    · refine gg_iconst (v := (1 : Int32)) (pc := 12) K dX5_has_12 (by decide) ?_
      refine gg_goto (pc := 13) K 17 dX5_has_13 rfl ?_
      cases hF
      exact (hQ _ _ _ rfl).2.1 _ _ rfl rfl rfl dX5_has_17
def F_X5_has (x1 : Int32) (v_t_count : Int32) : Option (Int32) := F_X5_has_0 x1 v_t_count
theorem n_X5_has : yX5_has.cls = "SoundDesk$Sounds" ∧ yX5_has.cls ≠ "java/lang/invoke/MethodHandle" ∧ yX5_has.cls ≠ "java/lang/invoke/VarHandle" ∧ (parseMethodDescriptor yX5_has.desc).map (fun d => d.parameters.length) = some 1 := by decide +kernel
theorem c_X5_has (l : Launch) (E : en_T) (a_t a_t_kind a_t_yes a_t_no : Nat) (x1 : Int32) (v_t_count : Int32) (v_t_missingRows : Int32) {r : Int32}  (hF : F_X5_has x1 v_t_count = some (r)) : ct l yX5_has cX5_has 2 (some .boolean) rm_X5_has E [.ref a_t, .int x1] (W_X5_has E a_t a_t_kind a_t_yes a_t_no v_t_count v_t_missingRows) (some (.int r)) (fun x => x = (W_X5_has E a_t a_t_kind a_t_yes a_t_no v_t_count v_t_missingRows)) := by
  refine ct_of (by decide +kernel) (Nat.le_of_ble_eq_true rfl) (fun B hl hE _ K hQ => ?_)
  subst hl; subst hE
  refine gg_sub (lv' := [(0, .ref a_t), (1, .int x1)]) [0, 1] rfl ?_
  exact w_X5_has_0 K hQ hF
theorem dX5_add_0 : decode cX5_add 0 = .ok (.aload_n 0, 1) := by decide +kernel
theorem dX5_add_1 : decode cX5_add 1 = .ok (.getfield 7, 3) := by decide +kernel
theorem dX5_add_4 : decode cX5_add 4 = .ok (.istore 4, 2) := by decide +kernel
theorem dX5_add_6 : decode cX5_add 6 = .ok (.iload_n 2, 1) := by decide +kernel
theorem dX5_add_7 : decode cX5_add 7 = .ok (.iconst (-1), 1) := by decide +kernel
theorem dX5_add_8 : decode cX5_add 8 = .ok (.if_icmp .ne 7, 3) := by decide +kernel
theorem dX5_add_11 : decode cX5_add 11 = .ok (.iconst 1, 1) := by decide +kernel
theorem dX5_add_12 : decode cX5_add 12 = .ok (.goto 4, 3) := by decide +kernel
theorem dX5_add_15 : decode cX5_add 15 = .ok (.iconst 0, 1) := by decide +kernel
theorem dX5_add_16 : decode cX5_add 16 = .ok (.istore 5, 2) := by decide +kernel
theorem dX5_add_18 : decode cX5_add 18 = .ok (.iload 5, 2) := by decide +kernel
theorem dX5_add_20 : decode cX5_add 20 = .ok (.ifCond .eq 16, 3) := by decide +kernel
theorem dX5_add_23 : decode cX5_add 23 = .ok (.aload_n 0, 1) := by decide +kernel
theorem dX5_add_24 : decode cX5_add 24 = .ok (.dup, 1) := by decide +kernel
theorem dX5_add_25 : decode cX5_add 25 = .ok (.getfield 13, 3) := by decide +kernel
theorem dX5_add_28 : decode cX5_add 28 = .ok (.iconst 1, 1) := by decide +kernel
theorem dX5_add_29 : decode cX5_add 29 = .ok (.iload 4, 2) := by decide +kernel
theorem dX5_add_31 : decode cX5_add 31 = .ok (.ishl, 1) := by decide +kernel
theorem dX5_add_32 : decode cX5_add 32 = .ok (.ior, 1) := by decide +kernel
theorem dX5_add_33 : decode cX5_add 33 = .ok (.putfield 13, 3) := by decide +kernel
theorem dX5_add_36 : decode cX5_add 36 = .ok (.aload_n 0, 1) := by decide +kernel
theorem dX5_add_37 : decode cX5_add 37 = .ok (.getfield 16, 3) := by decide +kernel
theorem dX5_add_40 : decode cX5_add 40 = .ok (.iload 4, 2) := by decide +kernel
theorem dX5_add_42 : decode cX5_add 42 = .ok (.iload_n 1, 1) := by decide +kernel
theorem dX5_add_43 : decode cX5_add 43 = .ok (.iastore, 1) := by decide +kernel
theorem dX5_add_44 : decode cX5_add 44 = .ok (.aload_n 0, 1) := by decide +kernel
theorem dX5_add_45 : decode cX5_add 45 = .ok (.getfield 20, 3) := by decide +kernel
theorem dX5_add_48 : decode cX5_add 48 = .ok (.iload 4, 2) := by decide +kernel
theorem dX5_add_50 : decode cX5_add 50 = .ok (.iload 5, 2) := by decide +kernel
theorem dX5_add_52 : decode cX5_add 52 = .ok (.ifCond .eq 7, 3) := by decide +kernel
theorem dX5_add_55 : decode cX5_add 55 = .ok (.iconst 0, 1) := by decide +kernel
theorem dX5_add_56 : decode cX5_add 56 = .ok (.goto 4, 3) := by decide +kernel
theorem dX5_add_59 : decode cX5_add 59 = .ok (.iload_n 2, 1) := by decide +kernel
theorem dX5_add_60 : decode cX5_add 60 = .ok (.iastore, 1) := by decide +kernel
theorem dX5_add_61 : decode cX5_add 61 = .ok (.aload_n 0, 1) := by decide +kernel
theorem dX5_add_62 : decode cX5_add 62 = .ok (.getfield 23, 3) := by decide +kernel
theorem dX5_add_65 : decode cX5_add 65 = .ok (.iload 4, 2) := by decide +kernel
theorem dX5_add_67 : decode cX5_add 67 = .ok (.iload 5, 2) := by decide +kernel
theorem dX5_add_69 : decode cX5_add 69 = .ok (.ifCond .eq 7, 3) := by decide +kernel
theorem dX5_add_72 : decode cX5_add 72 = .ok (.iconst 0, 1) := by decide +kernel
theorem dX5_add_73 : decode cX5_add 73 = .ok (.goto 4, 3) := by decide +kernel
theorem dX5_add_76 : decode cX5_add 76 = .ok (.iload_n 3, 1) := by decide +kernel
theorem dX5_add_77 : decode cX5_add 77 = .ok (.iastore, 1) := by decide +kernel
theorem dX5_add_78 : decode cX5_add 78 = .ok (.aload_n 0, 1) := by decide +kernel
theorem dX5_add_79 : decode cX5_add 79 = .ok (.dup, 1) := by decide +kernel
theorem dX5_add_80 : decode cX5_add 80 = .ok (.getfield 7, 3) := by decide +kernel
theorem dX5_add_83 : decode cX5_add 83 = .ok (.iconst 1, 1) := by decide +kernel
theorem dX5_add_84 : decode cX5_add 84 = .ok (.iadd, 1) := by decide +kernel
theorem dX5_add_85 : decode cX5_add 85 = .ok (.putfield 7, 3) := by decide +kernel
theorem dX5_add_88 : decode cX5_add 88 = .ok (.iload 4, 2) := by decide +kernel
theorem dX5_add_90 : decode cX5_add 90 = .ok (.ireturn, 1) := by decide +kernel
def rm_X5_add : Room := { frames := 0, cells := 0, slots := 0, locals := 0 }
def W_X5_add (E : en_T) (a_t a_t_kind a_t_yes a_t_no : Nat) (v_t_count : Int32) (v_t_missingRows : Int32) (v_t_kind : (Nat → Int32)) (v_t_no : (Nat → Int32)) (v_t_yes : (Nat → Int32)) : va_W := [(a_t, .inr (5, [.int v_t_count, .int v_t_missingRows, .ref a_t_kind, .ref a_t_yes, .ref a_t_no])), (a_t_kind, .inl (en_I E, 8, .inl v_t_kind)), (a_t_no, .inl (en_I E, 8, .inl v_t_no)), (a_t_yes, .inl (en_I E, 8, .inl v_t_yes))]
def F_X5_add_77  (x4 : Int32) (s1 : Int32) (s2 : Int32) (v_t_count : Int32) (v_t_missingRows : Int32) (v_t_kind : (Nat → Int32)) (v_t_no : (Nat → Int32)) (v_t_yes : (Nat → Int32)) : Option (Int32 × Int32 × Int32 × (Nat → Int32) × (Nat → Int32) × (Nat → Int32)) := ck_ s1 8 (lt_ (upd v_t_no (Int32.toNatClampNeg s1) s2) (fun f1 => lt_ (v_t_count + (1 : Int32)) (fun y2 => some (x4, y2, v_t_missingRows, v_t_kind, f1, v_t_yes))))
set_option maxHeartbeats 4000000 in
theorem w_X5_add_77 {B : bu_T} {a_t a_t_kind a_t_yes a_t_no : Nat} {v_t_count : Int32} {v_t_missingRows : Int32} {v_t_kind : (Nat → Int32)} {v_t_no : (Nat → Int32)} {v_t_yes : (Nat → Int32)} {r : Int32} {o_t_count : Int32} {o_t_missingRows : Int32} {o_t_kind : (Nat → Int32)} {o_t_no : (Nat → Int32)} {o_t_yes : (Nat → Int32)} (K : cx B cX5_add "SoundDesk$Sounds" rm_X5_add 6) (hQ : rt B cX5_add 6 (some .int) rm_X5_add (some (.int r)) (fun x => x = (W_X5_add (bu_E B) a_t a_t_kind a_t_yes a_t_no o_t_count o_t_missingRows o_t_kind o_t_no o_t_yes))) {x4 : Int32} {s1 : Int32} {s2 : Int32} (hF : F_X5_add_77  x4 s1 s2 v_t_count v_t_missingRows v_t_kind v_t_no v_t_yes = some (r, o_t_count, o_t_missingRows, o_t_kind, o_t_no, o_t_yes)) : gg B 6 0 0 77 [(0, .ref a_t), (4, .int x4)] [.int s2, .int s1, .ref a_t_no] (W_X5_add (bu_E B) a_t a_t_kind a_t_yes a_t_no v_t_count v_t_missingRows v_t_kind v_t_no v_t_yes) := by
  unfold F_X5_add_77 at hF
  refine gg_iast (pc := 77) (wf := fun zz => (W_X5_add (bu_E B) a_t a_t_kind a_t_yes a_t_no v_t_count v_t_missingRows v_t_kind zz v_t_yes)) K 2 rfl dX5_add_77 hF (fun _ => rfl) (fun f1 ef1 hF => ?_)
  refine gg_aload_n (pc := 78) K 0 dX5_add_78 rfl rfl ?_
  refine gg_dup (pc := 79) K dX5_add_79 rfl ?_
  refine gg_get (pc := 80) K 0 0 i_X5 rfl rfl (by decide) q_1_43 rfl dX5_add_80 ?_
  refine gg_iconst (v := (1 : Int32)) (pc := 83) K dX5_add_83 (by decide) ?_
  refine gg_iadd (pc := 84) K dX5_add_84 ?_
  refine gg_puti (pc := 85) (wf := fun zz => (W_X5_add (bu_E B) a_t a_t_kind a_t_yes a_t_no zz v_t_missingRows v_t_kind f1 v_t_yes)) K 0 0 i_X5 tyX5_ok nmX5 rfl rfl (by decide) q_1_43 rfl (by decide +kernel) (Nat.le_of_ble_eq_true rfl) dX5_add_85 hF (fun _ => rfl) (fun y2 ey2 hF => ?_)
  refine gg_iload (pc := 88) K 1 dX5_add_88 rfl ?_
  cases hF
  exact (hQ _ _ _ rfl).2.1 _ _ rfl rfl rfl dX5_add_90
def F_X5_add_60  (x3 : Int32) (x4 : Int32) (x5 : Int32) (s1 : Int32) (s2 : Int32) (v_t_count : Int32) (v_t_missingRows : Int32) (v_t_kind : (Nat → Int32)) (v_t_no : (Nat → Int32)) (v_t_yes : (Nat → Int32)) : Option (Int32 × Int32 × Int32 × (Nat → Int32) × (Nat → Int32) × (Nat → Int32)) := ck_ s1 8 (lt_ (upd v_t_yes (Int32.toNatClampNeg s1) s2) (fun f3 => if x5 = (0 : Int32) then (F_X5_add_77  x4 x4 x3 v_t_count v_t_missingRows v_t_kind v_t_no f3) else (F_X5_add_77  x4 x4 (0 : Int32) v_t_count v_t_missingRows v_t_kind v_t_no f3)))
set_option maxHeartbeats 4000000 in
theorem w_X5_add_60 {B : bu_T} {a_t a_t_kind a_t_yes a_t_no : Nat} {v_t_count : Int32} {v_t_missingRows : Int32} {v_t_kind : (Nat → Int32)} {v_t_no : (Nat → Int32)} {v_t_yes : (Nat → Int32)} {r : Int32} {o_t_count : Int32} {o_t_missingRows : Int32} {o_t_kind : (Nat → Int32)} {o_t_no : (Nat → Int32)} {o_t_yes : (Nat → Int32)} (K : cx B cX5_add "SoundDesk$Sounds" rm_X5_add 6) (hQ : rt B cX5_add 6 (some .int) rm_X5_add (some (.int r)) (fun x => x = (W_X5_add (bu_E B) a_t a_t_kind a_t_yes a_t_no o_t_count o_t_missingRows o_t_kind o_t_no o_t_yes))) {x3 : Int32} {x4 : Int32} {x5 : Int32} {s1 : Int32} {s2 : Int32} (hF : F_X5_add_60  x3 x4 x5 s1 s2 v_t_count v_t_missingRows v_t_kind v_t_no v_t_yes = some (r, o_t_count, o_t_missingRows, o_t_kind, o_t_no, o_t_yes)) : gg B 6 0 0 60 [(0, .ref a_t), (3, .int x3), (4, .int x4), (5, .int x5)] [.int s2, .int s1, .ref a_t_yes] (W_X5_add (bu_E B) a_t a_t_kind a_t_yes a_t_no v_t_count v_t_missingRows v_t_kind v_t_no v_t_yes) := by
  unfold F_X5_add_60 at hF
  refine gg_iast (pc := 60) (wf := fun zz => (W_X5_add (bu_E B) a_t a_t_kind a_t_yes a_t_no v_t_count v_t_missingRows v_t_kind v_t_no zz)) K 3 rfl dX5_add_60 hF (fun _ => rfl) (fun f3 ef3 hF => ?_)
  refine gg_aload_n (pc := 61) K 0 dX5_add_61 rfl rfl ?_
  refine gg_get (pc := 62) K 0 4 i_X5 rfl rfl (by decide) q_1_50 rfl dX5_add_62 ?_
  refine gg_iload (pc := 65) K 2 dX5_add_65 rfl ?_
  refine gg_iload (pc := 67) K 3 dX5_add_67 rfl ?_
  refine gg_if_eq (pc := 69) K 76 dX5_add_69 rfl hF (fun c4 hF => ?_) (fun c4 hF => ?_)
  · refine gg_iload_n (pc := 76) K 1 dX5_add_76 rfl rfl ?_
    refine gg_sub [0, 2] rfl ?_
    exact w_X5_add_77 K hQ  hF
  · refine gg_iconst (v := (0 : Int32)) (pc := 72) K dX5_add_72 (by decide) ?_
    refine gg_goto (pc := 73) K 77 dX5_add_73 rfl ?_
    refine gg_sub [0, 2] rfl ?_
    exact w_X5_add_77 K hQ  hF
def F_X5_add_36  (x1 : Int32) (x2 : Int32) (x3 : Int32) (x4 : Int32) (x5 : Int32) (v_t_count : Int32) (v_t_missingRows : Int32) (v_t_kind : (Nat → Int32)) (v_t_no : (Nat → Int32)) (v_t_yes : (Nat → Int32)) : Option (Int32 × Int32 × Int32 × (Nat → Int32) × (Nat → Int32) × (Nat → Int32)) := ck_ x4 8 (lt_ (upd v_t_kind (Int32.toNatClampNeg x4) x1) (fun f5 => if x5 = (0 : Int32) then (F_X5_add_60  x3 x4 x5 x4 x2 v_t_count v_t_missingRows f5 v_t_no v_t_yes) else (F_X5_add_60  x3 x4 x5 x4 (0 : Int32) v_t_count v_t_missingRows f5 v_t_no v_t_yes)))
set_option maxHeartbeats 4000000 in
theorem w_X5_add_36 {B : bu_T} {a_t a_t_kind a_t_yes a_t_no : Nat} {v_t_count : Int32} {v_t_missingRows : Int32} {v_t_kind : (Nat → Int32)} {v_t_no : (Nat → Int32)} {v_t_yes : (Nat → Int32)} {r : Int32} {o_t_count : Int32} {o_t_missingRows : Int32} {o_t_kind : (Nat → Int32)} {o_t_no : (Nat → Int32)} {o_t_yes : (Nat → Int32)} (K : cx B cX5_add "SoundDesk$Sounds" rm_X5_add 6) (hQ : rt B cX5_add 6 (some .int) rm_X5_add (some (.int r)) (fun x => x = (W_X5_add (bu_E B) a_t a_t_kind a_t_yes a_t_no o_t_count o_t_missingRows o_t_kind o_t_no o_t_yes))) {x1 : Int32} {x2 : Int32} {x3 : Int32} {x4 : Int32} {x5 : Int32} (hF : F_X5_add_36  x1 x2 x3 x4 x5 v_t_count v_t_missingRows v_t_kind v_t_no v_t_yes = some (r, o_t_count, o_t_missingRows, o_t_kind, o_t_no, o_t_yes)) : gg B 6 0 0 36 [(0, .ref a_t), (1, .int x1), (2, .int x2), (3, .int x3), (4, .int x4), (5, .int x5)] [] (W_X5_add (bu_E B) a_t a_t_kind a_t_yes a_t_no v_t_count v_t_missingRows v_t_kind v_t_no v_t_yes) := by
  unfold F_X5_add_36 at hF
  refine gg_aload_n (pc := 36) K 0 dX5_add_36 rfl rfl ?_
  refine gg_get (pc := 37) K 0 2 i_X5 rfl rfl (by decide) q_1_48 rfl dX5_add_37 ?_
  refine gg_iload (pc := 40) K 4 dX5_add_40 rfl ?_
  refine gg_iload_n (pc := 42) K 1 dX5_add_42 rfl rfl ?_
  refine gg_iast (pc := 43) (wf := fun zz => (W_X5_add (bu_E B) a_t a_t_kind a_t_yes a_t_no v_t_count v_t_missingRows zz v_t_no v_t_yes)) K 1 rfl dX5_add_43 hF (fun _ => rfl) (fun f5 ef5 hF => ?_)
  refine gg_aload_n (pc := 44) K 0 dX5_add_44 rfl rfl ?_
  refine gg_get (pc := 45) K 0 3 i_X5 rfl rfl (by decide) q_1_49 rfl dX5_add_45 ?_
  refine gg_iload (pc := 48) K 4 dX5_add_48 rfl ?_
  refine gg_iload (pc := 50) K 5 dX5_add_50 rfl ?_
  refine gg_if_eq (pc := 52) K 59 dX5_add_52 rfl hF (fun c6 hF => ?_) (fun c6 hF => ?_)
  · refine gg_iload_n (pc := 59) K 2 dX5_add_59 rfl rfl ?_
    refine gg_sub [0, 3, 4, 5] rfl ?_
    exact w_X5_add_60 K hQ  hF
  · refine gg_iconst (v := (0 : Int32)) (pc := 55) K dX5_add_55 (by decide) ?_
    refine gg_goto (pc := 56) K 60 dX5_add_56 rfl ?_
    refine gg_sub [0, 3, 4, 5] rfl ?_
    exact w_X5_add_60 K hQ  hF
def F_X5_add_16  (x1 : Int32) (x2 : Int32) (x3 : Int32) (x4 : Int32) (s0 : Int32) (v_t_count : Int32) (v_t_missingRows : Int32) (v_t_kind : (Nat → Int32)) (v_t_no : (Nat → Int32)) (v_t_yes : (Nat → Int32)) : Option (Int32 × Int32 × Int32 × (Nat → Int32) × (Nat → Int32) × (Nat → Int32)) := if s0 = (0 : Int32) then (F_X5_add_36  x1 x2 x3 x4 s0 v_t_count v_t_missingRows v_t_kind v_t_no v_t_yes) else (lt_ (v_t_missingRows ||| ((1 : Int32) <<< (x4 &&& 31))) (fun y8 => F_X5_add_36  x1 x2 x3 x4 s0 v_t_count y8 v_t_kind v_t_no v_t_yes))
set_option maxHeartbeats 4000000 in
theorem w_X5_add_16 {B : bu_T} {a_t a_t_kind a_t_yes a_t_no : Nat} {v_t_count : Int32} {v_t_missingRows : Int32} {v_t_kind : (Nat → Int32)} {v_t_no : (Nat → Int32)} {v_t_yes : (Nat → Int32)} {r : Int32} {o_t_count : Int32} {o_t_missingRows : Int32} {o_t_kind : (Nat → Int32)} {o_t_no : (Nat → Int32)} {o_t_yes : (Nat → Int32)} (K : cx B cX5_add "SoundDesk$Sounds" rm_X5_add 6) (hQ : rt B cX5_add 6 (some .int) rm_X5_add (some (.int r)) (fun x => x = (W_X5_add (bu_E B) a_t a_t_kind a_t_yes a_t_no o_t_count o_t_missingRows o_t_kind o_t_no o_t_yes))) {x1 : Int32} {x2 : Int32} {x3 : Int32} {x4 : Int32} {s0 : Int32} (hF : F_X5_add_16  x1 x2 x3 x4 s0 v_t_count v_t_missingRows v_t_kind v_t_no v_t_yes = some (r, o_t_count, o_t_missingRows, o_t_kind, o_t_no, o_t_yes)) : gg B 6 0 0 16 [(0, .ref a_t), (1, .int x1), (2, .int x2), (3, .int x3), (4, .int x4)] [.int s0] (W_X5_add (bu_E B) a_t a_t_kind a_t_yes a_t_no v_t_count v_t_missingRows v_t_kind v_t_no v_t_yes) := by
  unfold F_X5_add_16 at hF
  refine gg_istore (pc := 16) (lv' := [(0, .ref a_t), (1, .int x1), (2, .int x2), (3, .int x3), (4, .int x4), (5, .int s0)]) K [1, 2, 3, 4, 5, 0] dX5_add_16 (by decide) rfl ?_
  refine gg_iload (pc := 18) K 5 dX5_add_18 rfl ?_
  refine gg_if_eq (pc := 20) K 36 dX5_add_20 rfl hF (fun c7 hF => ?_) (fun c7 hF => ?_)
  · exact w_X5_add_36 K hQ  hF
  · refine gg_aload_n (pc := 23) K 0 dX5_add_23 rfl rfl ?_
    refine gg_dup (pc := 24) K dX5_add_24 rfl ?_
    refine gg_get (pc := 25) K 0 1 i_X5 rfl rfl (by decide) q_1_47 rfl dX5_add_25 ?_
    refine gg_iconst (v := (1 : Int32)) (pc := 28) K dX5_add_28 (by decide) ?_
    refine gg_iload (pc := 29) K 4 dX5_add_29 rfl ?_
    refine gg_ishl (pc := 31) K dX5_add_31 ?_
    refine gg_ior (pc := 32) K dX5_add_32 ?_
    refine gg_puti (pc := 33) (wf := fun zz => (W_X5_add (bu_E B) a_t a_t_kind a_t_yes a_t_no v_t_count zz v_t_kind v_t_no v_t_yes)) K 0 1 i_X5 tyX5_ok nmX5 rfl rfl (by decide) q_1_47 rfl (by decide +kernel) (Nat.le_of_ble_eq_true rfl) dX5_add_33 hF (fun _ => rfl) (fun y8 ey8 hF => ?_)
    exact w_X5_add_36 K hQ  hF
def F_X5_add_0  (x1 : Int32) (x2 : Int32) (x3 : Int32) (v_t_count : Int32) (v_t_missingRows : Int32) (v_t_kind : (Nat → Int32)) (v_t_no : (Nat → Int32)) (v_t_yes : (Nat → Int32)) : Option (Int32 × Int32 × Int32 × (Nat → Int32) × (Nat → Int32) × (Nat → Int32)) := if x2 = (-1 : Int32) then (F_X5_add_16  x1 x2 x3 v_t_count (1 : Int32) v_t_count v_t_missingRows v_t_kind v_t_no v_t_yes) else (F_X5_add_16  x1 x2 x3 v_t_count (0 : Int32) v_t_count v_t_missingRows v_t_kind v_t_no v_t_yes)
set_option maxHeartbeats 4000000 in
theorem w_X5_add_0 {B : bu_T} {a_t a_t_kind a_t_yes a_t_no : Nat} {v_t_count : Int32} {v_t_missingRows : Int32} {v_t_kind : (Nat → Int32)} {v_t_no : (Nat → Int32)} {v_t_yes : (Nat → Int32)} {r : Int32} {o_t_count : Int32} {o_t_missingRows : Int32} {o_t_kind : (Nat → Int32)} {o_t_no : (Nat → Int32)} {o_t_yes : (Nat → Int32)} (K : cx B cX5_add "SoundDesk$Sounds" rm_X5_add 6) (hQ : rt B cX5_add 6 (some .int) rm_X5_add (some (.int r)) (fun x => x = (W_X5_add (bu_E B) a_t a_t_kind a_t_yes a_t_no o_t_count o_t_missingRows o_t_kind o_t_no o_t_yes))) {x1 : Int32} {x2 : Int32} {x3 : Int32} (hF : F_X5_add_0  x1 x2 x3 v_t_count v_t_missingRows v_t_kind v_t_no v_t_yes = some (r, o_t_count, o_t_missingRows, o_t_kind, o_t_no, o_t_yes)) : gg B 6 0 0 0 [(0, .ref a_t), (1, .int x1), (2, .int x2), (3, .int x3)] [] (W_X5_add (bu_E B) a_t a_t_kind a_t_yes a_t_no v_t_count v_t_missingRows v_t_kind v_t_no v_t_yes) := by
  unfold F_X5_add_0 at hF
  refine gg_aload_n (pc := 0) K 0 dX5_add_0 rfl rfl ?_
  refine gg_get (pc := 1) K 0 0 i_X5 rfl rfl (by decide) q_1_43 rfl dX5_add_1 ?_
  refine gg_istore (pc := 4) (lv' := [(0, .ref a_t), (1, .int x1), (2, .int x2), (3, .int x3), (4, .int v_t_count)]) K [1, 2, 3, 4, 0] dX5_add_4 (by decide) rfl ?_
  refine gg_iload_n (pc := 6) K 2 dX5_add_6 rfl rfl ?_
  refine gg_iconst (v := (-1 : Int32)) (pc := 7) K dX5_add_7 (by decide) ?_
  refine gg_icmp_ne (pc := 8) K 15 dX5_add_8 rfl hF (fun c9 hF => ?_) (fun c9 hF => ?_)
  · refine gg_iconst (v := (0 : Int32)) (pc := 15) K dX5_add_15 (by decide) ?_
    exact w_X5_add_16 K hQ  hF
  · refine gg_iconst (v := (1 : Int32)) (pc := 11) K dX5_add_11 (by decide) ?_
    refine gg_goto (pc := 12) K 16 dX5_add_12 rfl ?_
    exact w_X5_add_16 K hQ  hF
def F_X5_add (x1 : Int32) (x2 : Int32) (x3 : Int32) (v_t_count : Int32) (v_t_missingRows : Int32) (v_t_kind : (Nat → Int32)) (v_t_no : (Nat → Int32)) (v_t_yes : (Nat → Int32)) : Option (Int32 × Int32 × Int32 × (Nat → Int32) × (Nat → Int32) × (Nat → Int32)) := F_X5_add_0 x1 x2 x3 v_t_count v_t_missingRows v_t_kind v_t_no v_t_yes
theorem n_X5_add : yX5_add.cls = "SoundDesk$Sounds" ∧ yX5_add.cls ≠ "java/lang/invoke/MethodHandle" ∧ yX5_add.cls ≠ "java/lang/invoke/VarHandle" ∧ (parseMethodDescriptor yX5_add.desc).map (fun d => d.parameters.length) = some 3 := by decide +kernel
theorem c_X5_add (l : Launch) (E : en_T) (a_t a_t_kind a_t_yes a_t_no : Nat) (x1 : Int32) (x2 : Int32) (x3 : Int32) (v_t_count : Int32) (v_t_missingRows : Int32) (v_t_kind : (Nat → Int32)) (v_t_no : (Nat → Int32)) (v_t_yes : (Nat → Int32)) {r : Int32} {o_t_count : Int32} {o_t_missingRows : Int32} {o_t_kind : (Nat → Int32)} {o_t_no : (Nat → Int32)} {o_t_yes : (Nat → Int32)} (hF : F_X5_add x1 x2 x3 v_t_count v_t_missingRows v_t_kind v_t_no v_t_yes = some (r, o_t_count, o_t_missingRows, o_t_kind, o_t_no, o_t_yes)) : ct l yX5_add cX5_add 6 (some .int) rm_X5_add E [.ref a_t, .int x1, .int x2, .int x3] (W_X5_add E a_t a_t_kind a_t_yes a_t_no v_t_count v_t_missingRows v_t_kind v_t_no v_t_yes) (some (.int r)) (fun x => x = (W_X5_add E a_t a_t_kind a_t_yes a_t_no o_t_count o_t_missingRows o_t_kind o_t_no o_t_yes)) := by
  refine ct_of (by decide +kernel) (Nat.le_of_ble_eq_true rfl) (fun B hl hE _ K hQ => ?_)
  subst hl; subst hE
  refine gg_sub (lv' := [(0, .ref a_t), (1, .int x1), (2, .int x2), (3, .int x3)]) [0, 1, 2, 3] rfl ?_
  exact w_X5_add_0 K hQ hF
theorem dX5_isRowMissing_0 : decode cX5_isRowMissing 0 = .ok (.aload_n 0, 1) := by decide +kernel
theorem dX5_isRowMissing_1 : decode cX5_isRowMissing 1 = .ok (.getfield 13, 3) := by decide +kernel
theorem dX5_isRowMissing_4 : decode cX5_isRowMissing 4 = .ok (.iload_n 1, 1) := by decide +kernel
theorem dX5_isRowMissing_5 : decode cX5_isRowMissing 5 = .ok (.ishr, 1) := by decide +kernel
theorem dX5_isRowMissing_6 : decode cX5_isRowMissing 6 = .ok (.iconst 1, 1) := by decide +kernel
theorem dX5_isRowMissing_7 : decode cX5_isRowMissing 7 = .ok (.iand, 1) := by decide +kernel
theorem dX5_isRowMissing_8 : decode cX5_isRowMissing 8 = .ok (.iconst 1, 1) := by decide +kernel
theorem dX5_isRowMissing_9 : decode cX5_isRowMissing 9 = .ok (.if_icmp .ne 7, 3) := by decide +kernel
theorem dX5_isRowMissing_12 : decode cX5_isRowMissing 12 = .ok (.iconst 1, 1) := by decide +kernel
theorem dX5_isRowMissing_13 : decode cX5_isRowMissing 13 = .ok (.goto 4, 3) := by decide +kernel
theorem dX5_isRowMissing_16 : decode cX5_isRowMissing 16 = .ok (.iconst 0, 1) := by decide +kernel
theorem dX5_isRowMissing_17 : decode cX5_isRowMissing 17 = .ok (.ireturn, 1) := by decide +kernel
def rm_X5_isRowMissing : Room := { frames := 0, cells := 0, slots := 0, locals := 0 }
def W_X5_isRowMissing (E : en_T) (a_t a_t_kind a_t_yes a_t_no : Nat) (v_t_count : Int32) (v_t_missingRows : Int32) : va_W := [(a_t, .inr (5, [.int v_t_count, .int v_t_missingRows, .ref a_t_kind, .ref a_t_yes, .ref a_t_no]))]
def F_X5_isRowMissing_0  (x1 : Int32) (v_t_missingRows : Int32) : Option (Int32) := if ((v_t_missingRows >>> (x1 &&& 31)) &&& (1 : Int32)) = (1 : Int32) then (some ((1 : Int32))) else (some ((0 : Int32)))
set_option maxHeartbeats 4000000 in
theorem w_X5_isRowMissing_0 {B : bu_T} {a_t a_t_kind a_t_yes a_t_no : Nat} {v_t_count : Int32} {v_t_missingRows : Int32} {r : Int32}  (K : cx B cX5_isRowMissing "SoundDesk$Sounds" rm_X5_isRowMissing 2) (hQ : rt B cX5_isRowMissing 2 (some .boolean) rm_X5_isRowMissing (some (.int r)) (fun x => x = (W_X5_isRowMissing (bu_E B) a_t a_t_kind a_t_yes a_t_no v_t_count v_t_missingRows))) {x1 : Int32} (hF : F_X5_isRowMissing_0  x1 v_t_missingRows = some (r)) : gg B 2 0 0 0 [(0, .ref a_t), (1, .int x1)] [] (W_X5_isRowMissing (bu_E B) a_t a_t_kind a_t_yes a_t_no v_t_count v_t_missingRows) := by
  unfold F_X5_isRowMissing_0 at hF
  refine gg_aload_n (pc := 0) K 0 dX5_isRowMissing_0 rfl rfl ?_
  refine gg_get (pc := 1) K 0 1 i_X5 rfl rfl (by decide) q_1_47 rfl dX5_isRowMissing_1 ?_
  refine gg_iload_n (pc := 4) K 1 dX5_isRowMissing_4 rfl rfl ?_
  refine gg_ishr (pc := 5) K dX5_isRowMissing_5 ?_
  refine gg_iconst (v := (1 : Int32)) (pc := 6) K dX5_isRowMissing_6 (by decide) ?_
  refine gg_iand (pc := 7) K dX5_isRowMissing_7 ?_
  refine gg_iconst (v := (1 : Int32)) (pc := 8) K dX5_isRowMissing_8 (by decide) ?_
  refine gg_icmp_ne (pc := 9) K 16 dX5_isRowMissing_9 rfl hF (fun c1 hF => ?_) (fun c1 hF => ?_)
  · refine gg_iconst (v := (0 : Int32)) (pc := 16) K dX5_isRowMissing_16 (by decide) ?_
    cases hF
    exact (hQ _ _ _ rfl).2.1 _ _ rfl rfl rfl dX5_isRowMissing_17
  · refine gg_iconst (v := (1 : Int32)) (pc := 12) K dX5_isRowMissing_12 (by decide) ?_
    refine gg_goto (pc := 13) K 17 dX5_isRowMissing_13 rfl ?_
    cases hF
    exact (hQ _ _ _ rfl).2.1 _ _ rfl rfl rfl dX5_isRowMissing_17
def F_X5_isRowMissing (x1 : Int32) (v_t_missingRows : Int32) : Option (Int32) := F_X5_isRowMissing_0 x1 v_t_missingRows
theorem n_X5_isRowMissing : yX5_isRowMissing.cls = "SoundDesk$Sounds" ∧ yX5_isRowMissing.cls ≠ "java/lang/invoke/MethodHandle" ∧ yX5_isRowMissing.cls ≠ "java/lang/invoke/VarHandle" ∧ (parseMethodDescriptor yX5_isRowMissing.desc).map (fun d => d.parameters.length) = some 1 := by decide +kernel
theorem c_X5_isRowMissing (l : Launch) (E : en_T) (a_t a_t_kind a_t_yes a_t_no : Nat) (x1 : Int32) (v_t_count : Int32) (v_t_missingRows : Int32) {r : Int32}  (hF : F_X5_isRowMissing x1 v_t_missingRows = some (r)) : ct l yX5_isRowMissing cX5_isRowMissing 2 (some .boolean) rm_X5_isRowMissing E [.ref a_t, .int x1] (W_X5_isRowMissing E a_t a_t_kind a_t_yes a_t_no v_t_count v_t_missingRows) (some (.int r)) (fun x => x = (W_X5_isRowMissing E a_t a_t_kind a_t_yes a_t_no v_t_count v_t_missingRows)) := by
  refine ct_of (by decide +kernel) (Nat.le_of_ble_eq_true rfl) (fun B hl hE _ K hQ => ?_)
  subst hl; subst hE
  refine gg_sub (lv' := [(0, .ref a_t), (1, .int x1)]) [0, 1] rfl ?_
  exact w_X5_isRowMissing_0 K hQ hF
theorem dX5_markOf_0 : decode cX5_markOf 0 = .ok (.aload_n 0, 1) := by decide +kernel
theorem dX5_markOf_1 : decode cX5_markOf 1 = .ok (.getfield 20, 3) := by decide +kernel
theorem dX5_markOf_4 : decode cX5_markOf 4 = .ok (.iload_n 1, 1) := by decide +kernel
theorem dX5_markOf_5 : decode cX5_markOf 5 = .ok (.iaload, 1) := by decide +kernel
theorem dX5_markOf_6 : decode cX5_markOf 6 = .ok (.iload_n 2, 1) := by decide +kernel
theorem dX5_markOf_7 : decode cX5_markOf 7 = .ok (.ishr, 1) := by decide +kernel
theorem dX5_markOf_8 : decode cX5_markOf 8 = .ok (.iconst 1, 1) := by decide +kernel
theorem dX5_markOf_9 : decode cX5_markOf 9 = .ok (.iand, 1) := by decide +kernel
theorem dX5_markOf_10 : decode cX5_markOf 10 = .ok (.iconst 1, 1) := by decide +kernel
theorem dX5_markOf_11 : decode cX5_markOf 11 = .ok (.if_icmp .ne 5, 3) := by decide +kernel
theorem dX5_markOf_14 : decode cX5_markOf 14 = .ok (.iconst 1, 1) := by decide +kernel
theorem dX5_markOf_15 : decode cX5_markOf 15 = .ok (.ireturn, 1) := by decide +kernel
theorem dX5_markOf_16 : decode cX5_markOf 16 = .ok (.aload_n 0, 1) := by decide +kernel
theorem dX5_markOf_17 : decode cX5_markOf 17 = .ok (.getfield 23, 3) := by decide +kernel
theorem dX5_markOf_20 : decode cX5_markOf 20 = .ok (.iload_n 1, 1) := by decide +kernel
theorem dX5_markOf_21 : decode cX5_markOf 21 = .ok (.iaload, 1) := by decide +kernel
theorem dX5_markOf_22 : decode cX5_markOf 22 = .ok (.iload_n 2, 1) := by decide +kernel
theorem dX5_markOf_23 : decode cX5_markOf 23 = .ok (.ishr, 1) := by decide +kernel
theorem dX5_markOf_24 : decode cX5_markOf 24 = .ok (.iconst 1, 1) := by decide +kernel
theorem dX5_markOf_25 : decode cX5_markOf 25 = .ok (.iand, 1) := by decide +kernel
theorem dX5_markOf_26 : decode cX5_markOf 26 = .ok (.iconst 1, 1) := by decide +kernel
theorem dX5_markOf_27 : decode cX5_markOf 27 = .ok (.if_icmp .ne 7, 3) := by decide +kernel
theorem dX5_markOf_30 : decode cX5_markOf 30 = .ok (.iconst 0, 1) := by decide +kernel
theorem dX5_markOf_31 : decode cX5_markOf 31 = .ok (.goto 4, 3) := by decide +kernel
theorem dX5_markOf_34 : decode cX5_markOf 34 = .ok (.iconst 2, 1) := by decide +kernel
theorem dX5_markOf_35 : decode cX5_markOf 35 = .ok (.ireturn, 1) := by decide +kernel
def rm_X5_markOf : Room := { frames := 0, cells := 0, slots := 0, locals := 0 }
def W_X5_markOf (E : en_T) (a_t a_t_kind a_t_yes a_t_no : Nat) (v_t_count : Int32) (v_t_missingRows : Int32) (v_t_no : (Nat → Int32)) (v_t_yes : (Nat → Int32)) : va_W := [(a_t, .inr (5, [.int v_t_count, .int v_t_missingRows, .ref a_t_kind, .ref a_t_yes, .ref a_t_no])), (a_t_no, .inl (en_I E, 8, .inl v_t_no)), (a_t_yes, .inl (en_I E, 8, .inl v_t_yes))]
def F_X5_markOf_0  (x1 : Int32) (x2 : Int32) (v_t_no : (Nat → Int32)) (v_t_yes : (Nat → Int32)) : Option (Int32) := ck_ x1 8 (if (((v_t_yes (Int32.toNatClampNeg x1)) >>> (x2 &&& 31)) &&& (1 : Int32)) = (1 : Int32) then (some ((1 : Int32))) else (ck_ x1 8 (if (((v_t_no (Int32.toNatClampNeg x1)) >>> (x2 &&& 31)) &&& (1 : Int32)) = (1 : Int32) then (some ((0 : Int32))) else (some ((2 : Int32))))))
set_option maxHeartbeats 4000000 in
theorem w_X5_markOf_0 {B : bu_T} {a_t a_t_kind a_t_yes a_t_no : Nat} {v_t_count : Int32} {v_t_missingRows : Int32} {v_t_no : (Nat → Int32)} {v_t_yes : (Nat → Int32)} {r : Int32}  (K : cx B cX5_markOf "SoundDesk$Sounds" rm_X5_markOf 3) (hQ : rt B cX5_markOf 3 (some .int) rm_X5_markOf (some (.int r)) (fun x => x = (W_X5_markOf (bu_E B) a_t a_t_kind a_t_yes a_t_no v_t_count v_t_missingRows v_t_no v_t_yes))) {x1 : Int32} {x2 : Int32} (hF : F_X5_markOf_0  x1 x2 v_t_no v_t_yes = some (r)) : gg B 3 0 0 0 [(0, .ref a_t), (1, .int x1), (2, .int x2)] [] (W_X5_markOf (bu_E B) a_t a_t_kind a_t_yes a_t_no v_t_count v_t_missingRows v_t_no v_t_yes) := by
  unfold F_X5_markOf_0 at hF
  refine gg_aload_n (pc := 0) K 0 dX5_markOf_0 rfl rfl ?_
  refine gg_get (pc := 1) K 0 3 i_X5 rfl rfl (by decide) q_1_49 rfl dX5_markOf_1 ?_
  refine gg_iload_n (pc := 4) K 1 dX5_markOf_4 rfl rfl ?_
  refine gg_iald (pc := 5) K 2 rfl dX5_markOf_5 hF (fun hF => ?_)
  refine gg_iload_n (pc := 6) K 2 dX5_markOf_6 rfl rfl ?_
  refine gg_ishr (pc := 7) K dX5_markOf_7 ?_
  refine gg_iconst (v := (1 : Int32)) (pc := 8) K dX5_markOf_8 (by decide) ?_
  refine gg_iand (pc := 9) K dX5_markOf_9 ?_
  refine gg_iconst (v := (1 : Int32)) (pc := 10) K dX5_markOf_10 (by decide) ?_
  refine gg_icmp_ne (pc := 11) K 16 dX5_markOf_11 rfl hF (fun c1 hF => ?_) (fun c1 hF => ?_)
  · refine gg_aload_n (pc := 16) K 0 dX5_markOf_16 rfl rfl ?_
    refine gg_get (pc := 17) K 0 4 i_X5 rfl rfl (by decide) q_1_50 rfl dX5_markOf_17 ?_
    refine gg_iload_n (pc := 20) K 1 dX5_markOf_20 rfl rfl ?_
    refine gg_iald (pc := 21) K 1 rfl dX5_markOf_21 hF (fun hF => ?_)
    refine gg_iload_n (pc := 22) K 2 dX5_markOf_22 rfl rfl ?_
    refine gg_ishr (pc := 23) K dX5_markOf_23 ?_
    refine gg_iconst (v := (1 : Int32)) (pc := 24) K dX5_markOf_24 (by decide) ?_
    refine gg_iand (pc := 25) K dX5_markOf_25 ?_
    refine gg_iconst (v := (1 : Int32)) (pc := 26) K dX5_markOf_26 (by decide) ?_
    refine gg_icmp_ne (pc := 27) K 34 dX5_markOf_27 rfl hF (fun c2 hF => ?_) (fun c2 hF => ?_)
    · refine gg_iconst (v := (2 : Int32)) (pc := 34) K dX5_markOf_34 (by decide) ?_
      cases hF
      exact (hQ _ _ _ rfl).2.1 _ _ rfl rfl rfl dX5_markOf_35
    · refine gg_iconst (v := (0 : Int32)) (pc := 30) K dX5_markOf_30 (by decide) ?_
      refine gg_goto (pc := 31) K 35 dX5_markOf_31 rfl ?_
      cases hF
      exact (hQ _ _ _ rfl).2.1 _ _ rfl rfl rfl dX5_markOf_35
  · refine gg_iconst (v := (1 : Int32)) (pc := 14) K dX5_markOf_14 (by decide) ?_
    cases hF
    exact (hQ _ _ _ rfl).2.1 _ _ rfl rfl rfl dX5_markOf_15
def F_X5_markOf (x1 : Int32) (x2 : Int32) (v_t_no : (Nat → Int32)) (v_t_yes : (Nat → Int32)) : Option (Int32) := F_X5_markOf_0 x1 x2 v_t_no v_t_yes
theorem n_X5_markOf : yX5_markOf.cls = "SoundDesk$Sounds" ∧ yX5_markOf.cls ≠ "java/lang/invoke/MethodHandle" ∧ yX5_markOf.cls ≠ "java/lang/invoke/VarHandle" ∧ (parseMethodDescriptor yX5_markOf.desc).map (fun d => d.parameters.length) = some 2 := by decide +kernel
theorem c_X5_markOf (l : Launch) (E : en_T) (a_t a_t_kind a_t_yes a_t_no : Nat) (x1 : Int32) (x2 : Int32) (v_t_count : Int32) (v_t_missingRows : Int32) (v_t_no : (Nat → Int32)) (v_t_yes : (Nat → Int32)) {r : Int32}  (hF : F_X5_markOf x1 x2 v_t_no v_t_yes = some (r)) : ct l yX5_markOf cX5_markOf 3 (some .int) rm_X5_markOf E [.ref a_t, .int x1, .int x2] (W_X5_markOf E a_t a_t_kind a_t_yes a_t_no v_t_count v_t_missingRows v_t_no v_t_yes) (some (.int r)) (fun x => x = (W_X5_markOf E a_t a_t_kind a_t_yes a_t_no v_t_count v_t_missingRows v_t_no v_t_yes)) := by
  refine ct_of (by decide +kernel) (Nat.le_of_ble_eq_true rfl) (fun B hl hE _ K hQ => ?_)
  subst hl; subst hE
  refine gg_sub (lv' := [(0, .ref a_t), (1, .int x1), (2, .int x2)]) [0, 1, 2] rfl ?_
  exact w_X5_markOf_0 K hQ hF
