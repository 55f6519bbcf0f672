theorem dX1_setPlace_0 : decode cX1_setPlace 0 = .ok (.iload_n 0, 1) := by decide +kernel
theorem dX1_setPlace_1 : decode cX1_setPlace 1 = .ok (.iconst 3, 1) := by decide +kernel
theorem dX1_setPlace_2 : decode cX1_setPlace 2 = .ok (.imul, 1) := by decide +kernel
theorem dX1_setPlace_3 : decode cX1_setPlace 3 = .ok (.iload_n 1, 1) := by decide +kernel
theorem dX1_setPlace_4 : decode cX1_setPlace 4 = .ok (.iadd, 1) := by decide +kernel
theorem dX1_setPlace_5 : decode cX1_setPlace 5 = .ok (.ireturn, 1) := by decide +kernel
def rm_X1_setPlace : Room := { frames := 0, cells := 0, slots := 0, locals := 0 }
def F_X1_setPlace_0  (x0 : Int32) (x1 : Int32) : Option (Int32) := some (((x0 * (3 : Int32)) + x1))
set_option maxHeartbeats 4000000 in
theorem w_X1_setPlace_0 {B : bu_T} {r : Int32}  (K : cx B cX1_setPlace "SoundDesk$Laws" rm_X1_setPlace 2) (hQ : rt B cX1_setPlace 2 (some .int) rm_X1_setPlace (some (.int r)) (fun x => x = [])) {x0 : Int32} {x1 : Int32} (hF : F_X1_setPlace_0  x0 x1 = some (r)) : gg B 2 0 0 0 [(0, .int x0), (1, .int x1)] [] [] := by
  unfold F_X1_setPlace_0 at hF
  refine gg_iload_n (pc := 0) K 0 dX1_setPlace_0 rfl rfl ?_
  refine gg_iconst (v := (3 : Int32)) (pc := 1) K dX1_setPlace_1 (by decide) ?_
  refine gg_imul (pc := 2) K dX1_setPlace_2 ?_
  refine gg_iload_n (pc := 3) K 1 dX1_setPlace_3 rfl rfl ?_
  refine gg_iadd (pc := 4) K dX1_setPlace_4 ?_
  cases hF
  exact (hQ _ _ _ rfl).2.1 _ _ rfl rfl rfl dX1_setPlace_5
def F_X1_setPlace (x0 : Int32) (x1 : Int32)  : Option (Int32) := F_X1_setPlace_0 x0 x1
theorem n_X1_setPlace : yX1_setPlace.cls ≠ "java/lang/invoke/MethodHandle" ∧ yX1_setPlace.cls ≠ "java/lang/invoke/VarHandle" ∧ (parseMethodDescriptor yX1_setPlace.desc).map (fun d => d.parameters.length) = some 2 := by decide +kernel
theorem c_X1_setPlace (l : Launch) (E : en_T) (x0 : Int32) (x1 : Int32)  {r : Int32}  (hF : F_X1_setPlace x0 x1  = some (r)) : ct l yX1_setPlace cX1_setPlace 2 (some .int) rm_X1_setPlace E [.int x0, .int x1] [] (some (.int r)) (fun x => x = []) := by
  refine ct_of (by decide +kernel) (Nat.le_of_ble_eq_true rfl) (fun B hl hE _ K hQ => ?_)
  subst hl; subst hE
  refine gg_sub (lv' := [(0, .int x0), (1, .int x1)]) [0, 1] rfl ?_
  exact w_X1_setPlace_0 K hQ hF
theorem dX1_isIn_0 : decode cX1_isIn 0 = .ok (.iload_n 0, 1) := by decide +kernel
theorem dX1_isIn_1 : decode cX1_isIn 1 = .ok (.iload_n 1, 1) := by decide +kernel
theorem dX1_isIn_2 : decode cX1_isIn 2 = .ok (.ishr, 1) := by decide +kernel
theorem dX1_isIn_3 : decode cX1_isIn 3 = .ok (.iconst 1, 1) := by decide +kernel
theorem dX1_isIn_4 : decode cX1_isIn 4 = .ok (.iand, 1) := by decide +kernel
theorem dX1_isIn_5 : decode cX1_isIn 5 = .ok (.iconst 1, 1) := by decide +kernel
theorem dX1_isIn_6 : decode cX1_isIn 6 = .ok (.if_icmp .ne 7, 3) := by decide +kernel
theorem dX1_isIn_9 : decode cX1_isIn 9 = .ok (.iconst 1, 1) := by decide +kernel
theorem dX1_isIn_10 : decode cX1_isIn 10 = .ok (.goto 4, 3) := by decide +kernel
theorem dX1_isIn_13 : decode cX1_isIn 13 = .ok (.iconst 0, 1) := by decide +kernel
theorem dX1_isIn_14 : decode cX1_isIn 14 = .ok (.ireturn, 1) := by decide +kernel
def rm_X1_isIn : Room := { frames := 0, cells := 0, slots := 0, locals := 0 }
def F_X1_isIn_0  (x0 : Int32) (x1 : Int32) : Option (Int32) := if ((x0 >>> (x1 &&& 31)) &&& (1 : Int32)) = (1 : Int32) then (some ((1 : Int32))) else (some ((0 : Int32)))
set_option maxHeartbeats 4000000 in
theorem w_X1_isIn_0 {B : bu_T} {r : Int32}  (K : cx B cX1_isIn "SoundDesk$Laws" rm_X1_isIn 2) (hQ : rt B cX1_isIn 2 (some .boolean) rm_X1_isIn (some (.int r)) (fun x => x = [])) {x0 : Int32} {x1 : Int32} (hF : F_X1_isIn_0  x0 x1 = some (r)) : gg B 2 0 0 0 [(0, .int x0), (1, .int x1)] [] [] := by
  unfold F_X1_isIn_0 at hF
  refine gg_iload_n (pc := 0) K 0 dX1_isIn_0 rfl rfl ?_
  refine gg_iload_n (pc := 1) K 1 dX1_isIn_1 rfl rfl ?_
  refine gg_ishr (pc := 2) K dX1_isIn_2 ?_
  refine gg_iconst (v := (1 : Int32)) (pc := 3) K dX1_isIn_3 (by decide) ?_
  refine gg_iand (pc := 4) K dX1_isIn_4 ?_
  refine gg_iconst (v := (1 : Int32)) (pc := 5) K dX1_isIn_5 (by decide) ?_
  refine gg_icmp_ne (pc := 6) K 13 dX1_isIn_6 rfl hF (fun c1 hF => ?_) (fun c1 hF => ?_)
  · refine gg_iconst (v := (0 : Int32)) (pc := 13) K dX1_isIn_13 (by decide) ?_
    cases hF
    exact (hQ _ _ _ rfl).2.1 _ _ rfl rfl rfl dX1_isIn_14
  · refine gg_iconst (v := (1 : Int32)) (pc := 9) K dX1_isIn_9 (by decide) ?_
    refine gg_goto (pc := 10) K 14 dX1_isIn_10 rfl ?_
    cases hF
    exact (hQ _ _ _ rfl).2.1 _ _ rfl rfl rfl dX1_isIn_14
def F_X1_isIn (x0 : Int32) (x1 : Int32)  : Option (Int32) := F_X1_isIn_0 x0 x1
theorem n_X1_isIn : yX1_isIn.cls ≠ "java/lang/invoke/MethodHandle" ∧ yX1_isIn.cls ≠ "java/lang/invoke/VarHandle" ∧ (parseMethodDescriptor yX1_isIn.desc).map (fun d => d.parameters.length) = some 2 := by decide +kernel
theorem c_X1_isIn (l : Launch) (E : en_T) (x0 : Int32) (x1 : Int32)  {r : Int32}  (hF : F_X1_isIn x0 x1  = some (r)) : ct l yX1_isIn cX1_isIn 2 (some .boolean) rm_X1_isIn E [.int x0, .int x1] [] (some (.int r)) (fun x => x = []) := by
  refine ct_of (by decide +kernel) (Nat.le_of_ble_eq_true rfl) (fun B hl hE _ K hQ => ?_)
  subst hl; subst hE
  refine gg_sub (lv' := [(0, .int x0), (1, .int x1)]) [0, 1] rfl ?_
  exact w_X1_isIn_0 K hQ hF
theorem dX1_addChanged_0 : decode cX1_addChanged 0 = .ok (.aload_n 0, 1) := by decide +kernel
theorem dX1_addChanged_1 : decode cX1_addChanged 1 = .ok (.getfield 18, 3) := by decide +kernel
theorem dX1_addChanged_4 : decode cX1_addChanged 4 = .ok (.iload_n 1, 1) := by decide +kernel
theorem dX1_addChanged_5 : decode cX1_addChanged 5 = .ok (.iaload, 1) := by decide +kernel
theorem dX1_addChanged_6 : decode cX1_addChanged 6 = .ok (.iconst 1, 1) := by decide +kernel
theorem dX1_addChanged_7 : decode cX1_addChanged 7 = .ok (.if_icmp .ne 5, 3) := by decide +kernel
theorem dX1_addChanged_10 : decode cX1_addChanged 10 = .ok (.lload_n 2, 1) := by decide +kernel
theorem dX1_addChanged_11 : decode cX1_addChanged 11 = .ok (.lreturn, 1) := by decide +kernel
theorem dX1_addChanged_12 : decode cX1_addChanged 12 = .ok (.aload_n 0, 1) := by decide +kernel
theorem dX1_addChanged_13 : decode cX1_addChanged 13 = .ok (.getfield 18, 3) := by decide +kernel
theorem dX1_addChanged_16 : decode cX1_addChanged 16 = .ok (.iload_n 1, 1) := by decide +kernel
theorem dX1_addChanged_17 : decode cX1_addChanged 17 = .ok (.iaload, 1) := by decide +kernel
theorem dX1_addChanged_18 : decode cX1_addChanged 18 = .ok (.ifCond .ne 14, 3) := by decide +kernel
theorem dX1_addChanged_21 : decode cX1_addChanged 21 = .ok (.lload_n 2, 1) := by decide +kernel
theorem dX1_addChanged_22 : decode cX1_addChanged 22 = .ok (.aload_n 0, 1) := by decide +kernel
theorem dX1_addChanged_23 : decode cX1_addChanged 23 = .ok (.getfield 22, 3) := by decide +kernel
theorem dX1_addChanged_26 : decode cX1_addChanged 26 = .ok (.iload_n 1, 1) := by decide +kernel
theorem dX1_addChanged_27 : decode cX1_addChanged 27 = .ok (.iaload, 1) := by decide +kernel
theorem dX1_addChanged_28 : decode cX1_addChanged 28 = .ok (.invokestatic 95, 3) := by decide +kernel
theorem dX1_addChanged_31 : decode cX1_addChanged 31 = .ok (.lreturn, 1) := by decide +kernel
theorem dX1_addChanged_32 : decode cX1_addChanged 32 = .ok (.aload_n 0, 1) := by decide +kernel
theorem dX1_addChanged_33 : decode cX1_addChanged 33 = .ok (.getfield 25, 3) := by decide +kernel
theorem dX1_addChanged_36 : decode cX1_addChanged 36 = .ok (.iload_n 1, 1) := by decide +kernel
theorem dX1_addChanged_37 : decode cX1_addChanged 37 = .ok (.iaload, 1) := by decide +kernel
theorem dX1_addChanged_38 : decode cX1_addChanged 38 = .ok (.iconst 1, 1) := by decide +kernel
theorem dX1_addChanged_39 : decode cX1_addChanged 39 = .ok (.if_icmp .ne 19, 3) := by decide +kernel
theorem dX1_addChanged_42 : decode cX1_addChanged 42 = .ok (.lload_n 2, 1) := by decide +kernel
theorem dX1_addChanged_43 : decode cX1_addChanged 43 = .ok (.aload_n 0, 1) := by decide +kernel
theorem dX1_addChanged_44 : decode cX1_addChanged 44 = .ok (.getfield 22, 3) := by decide +kernel
theorem dX1_addChanged_47 : decode cX1_addChanged 47 = .ok (.iload_n 1, 1) := by decide +kernel
theorem dX1_addChanged_48 : decode cX1_addChanged 48 = .ok (.iaload, 1) := by decide +kernel
theorem dX1_addChanged_49 : decode cX1_addChanged 49 = .ok (.invokestatic 95, 3) := by decide +kernel
theorem dX1_addChanged_52 : decode cX1_addChanged 52 = .ok (.iload 4, 2) := by decide +kernel
theorem dX1_addChanged_54 : decode cX1_addChanged 54 = .ok (.invokestatic 95, 3) := by decide +kernel
theorem dX1_addChanged_57 : decode cX1_addChanged 57 = .ok (.lreturn, 1) := by decide +kernel
theorem dX1_addChanged_58 : decode cX1_addChanged 58 = .ok (.lload_n 2, 1) := by decide +kernel
theorem dX1_addChanged_59 : decode cX1_addChanged 59 = .ok (.iload 4, 2) := by decide +kernel
theorem dX1_addChanged_61 : decode cX1_addChanged 61 = .ok (.invokestatic 95, 3) := by decide +kernel
theorem dX1_addChanged_64 : decode cX1_addChanged 64 = .ok (.aload_n 0, 1) := by decide +kernel
theorem dX1_addChanged_65 : decode cX1_addChanged 65 = .ok (.getfield 22, 3) := by decide +kernel
theorem dX1_addChanged_68 : decode cX1_addChanged 68 = .ok (.iload_n 1, 1) := by decide +kernel
theorem dX1_addChanged_69 : decode cX1_addChanged 69 = .ok (.iaload, 1) := by decide +kernel
theorem dX1_addChanged_70 : decode cX1_addChanged 70 = .ok (.invokestatic 95, 3) := by decide +kernel
theorem dX1_addChanged_73 : decode cX1_addChanged 73 = .ok (.lreturn, 1) := by decide +kernel
def rm_X1_addChanged : Room := { frames := 1, cells := 0, slots := 0, locals := 22 }
def W_X1_addChanged (E : en_T) (a_t a_t_how a_t_into a_t_kind a_t_setKind a_t_setYes a_t_setNo a_t_fitting : Nat) (v_t_count : Int32) (v_t_touched : Int32) (v_t_how : (Nat → Int32)) (v_t_into : (Nat → Int32)) (v_t_kind : (Nat → Int32)) : va_W := [(a_t, .inr (1, [.int v_t_count, .int v_t_touched, .ref a_t_how, .ref a_t_into, .ref a_t_kind, .ref a_t_setKind, .ref a_t_setYes, .ref a_t_setNo, .ref a_t_fitting])), (a_t_how, .inl (en_I E, 16, .inl v_t_how)), (a_t_into, .inl (en_I E, 16, .inl v_t_into)), (a_t_kind, .inl (en_I E, 16, .inl v_t_kind))]
def F_X1_addChanged_0  (x1 : Int32) (x2 : Int64) (x4 : Int32) (v_t_how : (Nat → Int32)) (v_t_into : (Nat → Int32)) (v_t_kind : (Nat → Int32)) : Option (Int64) := ck_ x1 16 (if (v_t_how (Int32.toNatClampNeg x1)) = (1 : Int32) then (some (x2)) else (ck_ x1 16 (if (v_t_how (Int32.toNatClampNeg x1)) = (0 : Int32) then (ck_ x1 16 (bn1_ (F_X9_add x2 (v_t_into (Int32.toNatClampNeg x1))) (fun y12 => some (y12)))) else (ck_ x1 16 (if (v_t_kind (Int32.toNatClampNeg x1)) = (1 : Int32) then (ck_ x1 16 (bn1_ (F_X9_add x2 (v_t_into (Int32.toNatClampNeg x1))) (fun y8 => bn1_ (F_X9_add y8 x4) (fun y10 => some (y10))))) else (bn1_ (F_X9_add x2 x4) (fun y4 => ck_ x1 16 (bn1_ (F_X9_add y4 (v_t_into (Int32.toNatClampNeg x1))) (fun y6 => some (y6))))))))))
set_option maxHeartbeats 4000000 in
theorem w_X1_addChanged_0 {B : bu_T} {a_t a_t_how a_t_into a_t_kind a_t_setKind a_t_setYes a_t_setNo a_t_fitting : Nat} {v_t_count : Int32} {v_t_touched : Int32} {v_t_how : (Nat → Int32)} {v_t_into : (Nat → Int32)} {v_t_kind : (Nat → Int32)} {r : Int64}  (K : cx B cX1_addChanged "SoundDesk$Laws" rm_X1_addChanged 5) (hQ : rt B cX1_addChanged 5 (some .long) rm_X1_addChanged (some (.long r)) (fun x => x = (W_X1_addChanged (bu_E B) a_t a_t_how a_t_into a_t_kind a_t_setKind a_t_setYes a_t_setNo a_t_fitting v_t_count v_t_touched v_t_how v_t_into v_t_kind))) {x1 : Int32} {x2 : Int64} {x4 : Int32} (hF : F_X1_addChanged_0  x1 x2 x4 v_t_how v_t_into v_t_kind = some (r)) : gg B 5 0 0 0 [(0, .ref a_t), (1, .int x1), (2, .long x2), (4, .int x4)] [] (W_X1_addChanged (bu_E B) a_t a_t_how a_t_into a_t_kind a_t_setKind a_t_setYes a_t_setNo a_t_fitting v_t_count v_t_touched v_t_how v_t_into v_t_kind) := by
  unfold F_X1_addChanged_0 at hF
  refine gg_aload_n (pc := 0) K 0 dX1_addChanged_0 rfl rfl ?_
  refine gg_get (pc := 1) K 0 2 i_X1 rfl rfl (by decide) q_1_73 rfl dX1_addChanged_1 ?_
  refine gg_iload_n (pc := 4) K 1 dX1_addChanged_4 rfl rfl ?_
  refine gg_iald (pc := 5) K 1 rfl dX1_addChanged_5 hF (fun hF => ?_)
  refine gg_iconst (v := (1 : Int32)) (pc := 6) K dX1_addChanged_6 (by decide) ?_
  refine gg_icmp_ne (pc := 7) K 12 dX1_addChanged_7 rfl hF (fun c1 hF => ?_) (fun c1 hF => ?_)
  · refine gg_aload_n (pc := 12) K 0 dX1_addChanged_12 rfl rfl ?_
    refine gg_get (pc := 13) K 0 2 i_X1 rfl rfl (by decide) q_1_73 rfl dX1_addChanged_13 ?_
    refine gg_iload_n (pc := 16) K 1 dX1_addChanged_16 rfl rfl ?_
    refine gg_iald (pc := 17) K 1 rfl dX1_addChanged_17 hF (fun hF => ?_)
    refine gg_if_ne (pc := 18) K 32 dX1_addChanged_18 rfl hF (fun c2 hF => ?_) (fun c2 hF => ?_)
    · refine gg_aload_n (pc := 32) K 0 dX1_addChanged_32 rfl rfl ?_
      refine gg_get (pc := 33) K 0 4 i_X1 rfl rfl (by decide) q_1_77 rfl dX1_addChanged_33 ?_
      refine gg_iload_n (pc := 36) K 1 dX1_addChanged_36 rfl rfl ?_
      refine gg_iald (pc := 37) K 3 rfl dX1_addChanged_37 hF (fun hF => ?_)
      refine gg_iconst (v := (1 : Int32)) (pc := 38) K dX1_addChanged_38 (by decide) ?_
      refine gg_icmp_ne (pc := 39) K 58 dX1_addChanged_39 rfl hF (fun c3 hF => ?_) (fun c3 hF => ?_)
      · refine gg_lload_n (pc := 58) K 2 dX1_addChanged_58 rfl rfl ?_
        refine gg_iload (pc := 59) K 3 dX1_addChanged_59 rfl ?_
        obtain ⟨y4, hc5, hF⟩ := bn1_some hF
        refine gg_dS (pc := 61) (st' := [.long y4]) (rest := []) (w' := (W_X1_addChanged (bu_E B) a_t a_t_how a_t_into a_t_kind a_t_setKind a_t_setYes a_t_setNo a_t_fitting v_t_count v_t_touched v_t_how v_t_into v_t_kind)) K (c_X9_add (bu_l B) (bu_E B) x2 x4 hc5) ⟨rfl, rfl⟩ q_3_24 q_2_221 q_1_13 q_2_222 n_X9_add ⟨(Nat.le_of_ble_eq_true rfl), (Nat.le_of_ble_eq_true rfl)⟩ [] [false, false, false, false] rfl rfl rfl rfl rfl rfl (by decide) rfl rfl rfl ⟨Nat.zero_le _, Nat.zero_le _⟩ (Nat.le_of_ble_eq_true rfl) dX1_addChanged_61 ?_
        refine gg_aload_n (pc := 64) K 0 dX1_addChanged_64 rfl rfl ?_
        refine gg_get (pc := 65) K 0 3 i_X1 rfl rfl (by decide) q_1_75 rfl dX1_addChanged_65 ?_
        refine gg_iload_n (pc := 68) K 1 dX1_addChanged_68 rfl rfl ?_
        refine gg_iald (pc := 69) K 2 rfl dX1_addChanged_69 hF (fun hF => ?_)
        obtain ⟨y6, hc7, hF⟩ := bn1_some hF
        refine gg_dS (pc := 70) (st' := [.long y6]) (rest := []) (w' := (W_X1_addChanged (bu_E B) a_t a_t_how a_t_into a_t_kind a_t_setKind a_t_setYes a_t_setNo a_t_fitting v_t_count v_t_touched v_t_how v_t_into v_t_kind)) K (c_X9_add (bu_l B) (bu_E B) y4 (v_t_into (Int32.toNatClampNeg x1)) hc7) ⟨rfl, rfl⟩ q_3_24 q_2_221 q_1_13 q_2_222 n_X9_add ⟨(Nat.le_of_ble_eq_true rfl), (Nat.le_of_ble_eq_true rfl)⟩ [] [false, false, false, false] rfl rfl rfl rfl rfl rfl (by decide) rfl rfl rfl ⟨Nat.zero_le _, Nat.zero_le _⟩ (Nat.le_of_ble_eq_true rfl) dX1_addChanged_70 ?_
        cases hF
        exact (hQ _ _ _ rfl).2.2 _ rfl rfl dX1_addChanged_73
      · refine gg_lload_n (pc := 42) K 2 dX1_addChanged_42 rfl rfl ?_
        refine gg_aload_n (pc := 43) K 0 dX1_addChanged_43 rfl rfl ?_
        refine gg_get (pc := 44) K 0 3 i_X1 rfl rfl (by decide) q_1_75 rfl dX1_addChanged_44 ?_
        refine gg_iload_n (pc := 47) K 1 dX1_addChanged_47 rfl rfl ?_
        refine gg_iald (pc := 48) K 2 rfl dX1_addChanged_48 hF (fun hF => ?_)
        obtain ⟨y8, hc9, hF⟩ := bn1_some hF
        refine gg_dS (pc := 49) (st' := [.long y8]) (rest := []) (w' := (W_X1_addChanged (bu_E B) a_t a_t_how a_t_into a_t_kind a_t_setKind a_t_setYes a_t_setNo a_t_fitting v_t_count v_t_touched v_t_how v_t_into v_t_kind)) K (c_X9_add (bu_l B) (bu_E B) x2 (v_t_into (Int32.toNatClampNeg x1)) hc9) ⟨rfl, rfl⟩ q_3_24 q_2_221 q_1_13 q_2_222 n_X9_add ⟨(Nat.le_of_ble_eq_true rfl), (Nat.le_of_ble_eq_true rfl)⟩ [] [false, false, false, false] rfl rfl rfl rfl rfl rfl (by decide) rfl rfl rfl ⟨Nat.zero_le _, Nat.zero_le _⟩ (Nat.le_of_ble_eq_true rfl) dX1_addChanged_49 ?_
        refine gg_iload (pc := 52) K 3 dX1_addChanged_52 rfl ?_
        obtain ⟨y10, hc11, hF⟩ := bn1_some hF
        refine gg_dS (pc := 54) (st' := [.long y10]) (rest := []) (w' := (W_X1_addChanged (bu_E B) a_t a_t_how a_t_into a_t_kind a_t_setKind a_t_setYes a_t_setNo a_t_fitting v_t_count v_t_touched v_t_how v_t_into v_t_kind)) K (c_X9_add (bu_l B) (bu_E B) y8 x4 hc11) ⟨rfl, rfl⟩ q_3_24 q_2_221 q_1_13 q_2_222 n_X9_add ⟨(Nat.le_of_ble_eq_true rfl), (Nat.le_of_ble_eq_true rfl)⟩ [] [false, false, false, false] rfl rfl rfl rfl rfl rfl (by decide) rfl rfl rfl ⟨Nat.zero_le _, Nat.zero_le _⟩ (Nat.le_of_ble_eq_true rfl) dX1_addChanged_54 ?_
        cases hF
        exact (hQ _ _ _ rfl).2.2 _ rfl rfl dX1_addChanged_57
    · refine gg_lload_n (pc := 21) K 2 dX1_addChanged_21 rfl rfl ?_
      refine gg_aload_n (pc := 22) K 0 dX1_addChanged_22 rfl rfl ?_
      refine gg_get (pc := 23) K 0 3 i_X1 rfl rfl (by decide) q_1_75 rfl dX1_addChanged_23 ?_
      refine gg_iload_n (pc := 26) K 1 dX1_addChanged_26 rfl rfl ?_
      refine gg_iald (pc := 27) K 2 rfl dX1_addChanged_27 hF (fun hF => ?_)
      obtain ⟨y12, hc13, hF⟩ := bn1_some hF
      refine gg_dS (pc := 28) (st' := [.long y12]) (rest := []) (w' := (W_X1_addChanged (bu_E B) a_t a_t_how a_t_into a_t_kind a_t_setKind a_t_setYes a_t_setNo a_t_fitting v_t_count v_t_touched v_t_how v_t_into v_t_kind)) K (c_X9_add (bu_l B) (bu_E B) x2 (v_t_into (Int32.toNatClampNeg x1)) hc13) ⟨rfl, rfl⟩ q_3_24 q_2_221 q_1_13 q_2_222 n_X9_add ⟨(Nat.le_of_ble_eq_true rfl), (Nat.le_of_ble_eq_true rfl)⟩ [] [false, false, false, false] rfl rfl rfl rfl rfl rfl (by decide) rfl rfl rfl ⟨Nat.zero_le _, Nat.zero_le _⟩ (Nat.le_of_ble_eq_true rfl) dX1_addChanged_28 ?_
      cases hF
      exact (hQ _ _ _ rfl).2.2 _ rfl rfl dX1_addChanged_31
  · refine gg_lload_n (pc := 10) K 2 dX1_addChanged_10 rfl rfl ?_
    cases hF
    exact (hQ _ _ _ rfl).2.2 _ rfl rfl dX1_addChanged_11
def F_X1_addChanged (x1 : Int32) (x2 : Int64) (x4 : Int32) (v_t_how : (Nat → Int32)) (v_t_into : (Nat → Int32)) (v_t_kind : (Nat → Int32)) : Option (Int64) := F_X1_addChanged_0 x1 x2 x4 v_t_how v_t_into v_t_kind
theorem n_X1_addChanged : yX1_addChanged.cls = "SoundDesk$Laws" ∧ yX1_addChanged.cls ≠ "java/lang/invoke/MethodHandle" ∧ yX1_addChanged.cls ≠ "java/lang/invoke/VarHandle" ∧ (parseMethodDescriptor yX1_addChanged.desc).map (fun d => d.parameters.length) = some 3 := by decide +kernel
theorem c_X1_addChanged (l : Launch) (E : en_T) (a_t a_t_how a_t_into a_t_kind a_t_setKind a_t_setYes a_t_setNo a_t_fitting : Nat) (x1 : Int32) (x2 : Int64) (x4 : Int32) (v_t_count : Int32) (v_t_touched : Int32) (v_t_how : (Nat → Int32)) (v_t_into : (Nat → Int32)) (v_t_kind : (Nat → Int32)) {r : Int64}  (hF : F_X1_addChanged x1 x2 x4 v_t_how v_t_into v_t_kind = some (r)) : ct l yX1_addChanged cX1_addChanged 5 (some .long) rm_X1_addChanged E [.ref a_t, .int x1, .long x2, .int x4] (W_X1_addChanged E a_t a_t_how a_t_into a_t_kind a_t_setKind a_t_setYes a_t_setNo a_t_fitting v_t_count v_t_touched v_t_how v_t_into v_t_kind) (some (.long r)) (fun x => x = (W_X1_addChanged E a_t a_t_how a_t_into a_t_kind a_t_setKind a_t_setYes a_t_setNo a_t_fitting v_t_count v_t_touched v_t_how v_t_into v_t_kind)) := by
  refine ct_of (by decide +kernel) (Nat.le_of_ble_eq_true rfl) (fun B hl hE _ K hQ => ?_)
  subst hl; subst hE
  refine gg_sub (lv' := [(0, .ref a_t), (1, .int x1), (2, .long x2), (4, .int x4)]) [0, 1, 2, 3] rfl ?_
  exact w_X1_addChanged_0 K hQ hF
theorem dX1_sweep_0 : decode cX1_sweep 0 = .ok (.aload_n 0, 1) := by decide +kernel
theorem dX1_sweep_1 : decode cX1_sweep 1 = .ok (.getfield 25, 3) := by decide +kernel
theorem dX1_sweep_4 : decode cX1_sweep 4 = .ok (.iload_n 1, 1) := by decide +kernel
theorem dX1_sweep_5 : decode cX1_sweep 5 = .ok (.iaload, 1) := by decide +kernel
theorem dX1_sweep_6 : decode cX1_sweep 6 = .ok (.iconst 3, 1) := by decide +kernel
theorem dX1_sweep_7 : decode cX1_sweep 7 = .ok (.if_icmp .ne 7, 3) := by decide +kernel
theorem dX1_sweep_10 : decode cX1_sweep 10 = .ok (.iconst 1, 1) := by decide +kernel
theorem dX1_sweep_11 : decode cX1_sweep 11 = .ok (.goto 4, 3) := by decide +kernel
theorem dX1_sweep_14 : decode cX1_sweep 14 = .ok (.iconst 0, 1) := by decide +kernel
theorem dX1_sweep_15 : decode cX1_sweep 15 = .ok (.istore 6, 2) := by decide +kernel
theorem dX1_sweep_17 : decode cX1_sweep 17 = .ok (.aload_n 0, 1) := by decide +kernel
theorem dX1_sweep_18 : decode cX1_sweep 18 = .ok (.getfield 25, 3) := by decide +kernel
theorem dX1_sweep_21 : decode cX1_sweep 21 = .ok (.iload_n 1, 1) := by decide +kernel
theorem dX1_sweep_22 : decode cX1_sweep 22 = .ok (.iaload, 1) := by decide +kernel
theorem dX1_sweep_23 : decode cX1_sweep 23 = .ok (.iconst 1, 1) := by decide +kernel
theorem dX1_sweep_24 : decode cX1_sweep 24 = .ok (.if_icmp .eq 13, 3) := by decide +kernel
theorem dX1_sweep_27 : decode cX1_sweep 27 = .ok (.aload_n 0, 1) := by decide +kernel
theorem dX1_sweep_28 : decode cX1_sweep 28 = .ok (.getfield 25, 3) := by decide +kernel
theorem dX1_sweep_31 : decode cX1_sweep 31 = .ok (.iload_n 1, 1) := by decide +kernel
theorem dX1_sweep_32 : decode cX1_sweep 32 = .ok (.iaload, 1) := by decide +kernel
theorem dX1_sweep_33 : decode cX1_sweep 33 = .ok (.iconst 2, 1) := by decide +kernel
theorem dX1_sweep_34 : decode cX1_sweep 34 = .ok (.if_icmp .ne 7, 3) := by decide +kernel
theorem dX1_sweep_37 : decode cX1_sweep 37 = .ok (.iconst 1, 1) := by decide +kernel
theorem dX1_sweep_38 : decode cX1_sweep 38 = .ok (.goto 4, 3) := by decide +kernel
theorem dX1_sweep_41 : decode cX1_sweep 41 = .ok (.iconst 0, 1) := by decide +kernel
theorem dX1_sweep_42 : decode cX1_sweep 42 = .ok (.istore 7, 2) := by decide +kernel
theorem dX1_sweep_44 : decode cX1_sweep 44 = .ok (.aload_n 0, 1) := by decide +kernel
theorem dX1_sweep_45 : decode cX1_sweep 45 = .ok (.getfield 37, 3) := by decide +kernel
theorem dX1_sweep_48 : decode cX1_sweep 48 = .ok (.iload_n 1, 1) := by decide +kernel
theorem dX1_sweep_49 : decode cX1_sweep 49 = .ok (.iconst 0, 1) := by decide +kernel
theorem dX1_sweep_50 : decode cX1_sweep 50 = .ok (.invokestatic 55, 3) := by decide +kernel
theorem dX1_sweep_53 : decode cX1_sweep 53 = .ok (.iaload, 1) := by decide +kernel
theorem dX1_sweep_54 : decode cX1_sweep 54 = .ok (.istore 8, 2) := by decide +kernel
theorem dX1_sweep_56 : decode cX1_sweep 56 = .ok (.bipush 8, 2) := by decide +kernel
theorem dX1_sweep_58 : decode cX1_sweep 58 = .ok (.istore 9, 2) := by decide +kernel
theorem dX1_sweep_60 : decode cX1_sweep 60 = .ok (.lload_n 2, 1) := by decide +kernel
theorem dX1_sweep_61 : decode cX1_sweep 61 = .ok (.lstore 10, 2) := by decide +kernel
theorem dX1_sweep_63 : decode cX1_sweep 63 = .ok (.lconst 1, 1) := by decide +kernel
theorem dX1_sweep_64 : decode cX1_sweep 64 = .ok (.lstore 12, 2) := by decide +kernel
theorem dX1_sweep_66 : decode cX1_sweep 66 = .ok (.iconst 0, 1) := by decide +kernel
theorem dX1_sweep_67 : decode cX1_sweep 67 = .ok (.istore 14, 2) := by decide +kernel
theorem dX1_sweep_69 : decode cX1_sweep 69 = .ok (.iload 14, 2) := by decide +kernel
theorem dX1_sweep_71 : decode cX1_sweep 71 = .ok (.bipush 16, 2) := by decide +kernel
theorem dX1_sweep_73 : decode cX1_sweep 73 = .ok (.if_icmp .ge 147, 3) := by decide +kernel
theorem dX1_sweep_76 : decode cX1_sweep 76 = .ok (.lload 10, 2) := by decide +kernel
theorem dX1_sweep_78 : decode cX1_sweep 78 = .ok (.lconst 1, 1) := by decide +kernel
theorem dX1_sweep_79 : decode cX1_sweep 79 = .ok (.lcmp, 1) := by decide +kernel
theorem dX1_sweep_80 : decode cX1_sweep 80 = .ok (.ifCond .le 140, 3) := by decide +kernel
theorem dX1_sweep_83 : decode cX1_sweep 83 = .ok (.lload 10, 2) := by decide +kernel
theorem dX1_sweep_85 : decode cX1_sweep 85 = .ok (.invokestatic 80, 3) := by decide +kernel
theorem dX1_sweep_88 : decode cX1_sweep 88 = .ok (.istore 15, 2) := by decide +kernel
theorem dX1_sweep_90 : decode cX1_sweep 90 = .ok (.lload 10, 2) := by decide +kernel
theorem dX1_sweep_92 : decode cX1_sweep 92 = .ok (.invokestatic 84, 3) := by decide +kernel
theorem dX1_sweep_95 : decode cX1_sweep 95 = .ok (.lstore 10, 2) := by decide +kernel
theorem dX1_sweep_97 : decode cX1_sweep 97 = .ok (.iload 6, 2) := by decide +kernel
theorem dX1_sweep_99 : decode cX1_sweep 99 = .ok (.ifCond .eq 14, 3) := by decide +kernel
theorem dX1_sweep_102 : decode cX1_sweep 102 = .ok (.aload_n 0, 1) := by decide +kernel
theorem dX1_sweep_103 : decode cX1_sweep 103 = .ok (.getfield 15, 3) := by decide +kernel
theorem dX1_sweep_106 : decode cX1_sweep 106 = .ok (.ifCond .le 7, 3) := by decide +kernel
theorem dX1_sweep_109 : decode cX1_sweep 109 = .ok (.iconst 1, 1) := by decide +kernel
theorem dX1_sweep_110 : decode cX1_sweep 110 = .ok (.goto 4, 3) := by decide +kernel
theorem dX1_sweep_113 : decode cX1_sweep 113 = .ok (.iconst 0, 1) := by decide +kernel
theorem dX1_sweep_114 : decode cX1_sweep 114 = .ok (.istore 16, 2) := by decide +kernel
theorem dX1_sweep_116 : decode cX1_sweep 116 = .ok (.iload 16, 2) := by decide +kernel
theorem dX1_sweep_118 : decode cX1_sweep 118 = .ok (.ifCond .ne 73, 3) := by decide +kernel
theorem dX1_sweep_121 : decode cX1_sweep 121 = .ok (.iload 8, 2) := by decide +kernel
theorem dX1_sweep_123 : decode cX1_sweep 123 = .ok (.iload 15, 2) := by decide +kernel
theorem dX1_sweep_125 : decode cX1_sweep 125 = .ok (.invokestatic 87, 3) := by decide +kernel
theorem dX1_sweep_128 : decode cX1_sweep 128 = .ok (.ifCond .eq 63, 3) := by decide +kernel
theorem dX1_sweep_131 : decode cX1_sweep 131 = .ok (.iload 5, 2) := by decide +kernel
theorem dX1_sweep_133 : decode cX1_sweep 133 = .ok (.iload 7, 2) := by decide +kernel
theorem dX1_sweep_135 : decode cX1_sweep 135 = .ok (.ifCond .eq 11, 3) := by decide +kernel
theorem dX1_sweep_138 : decode cX1_sweep 138 = .ok (.lload 12, 2) := by decide +kernel
theorem dX1_sweep_140 : decode cX1_sweep 140 = .ok (.invokestatic 80, 3) := by decide +kernel
theorem dX1_sweep_143 : decode cX1_sweep 143 = .ok (.goto 5, 3) := by decide +kernel
theorem dX1_sweep_146 : decode cX1_sweep 146 = .ok (.iload 9, 2) := by decide +kernel
theorem dX1_sweep_148 : decode cX1_sweep 148 = .ok (.invokestatic 87, 3) := by decide +kernel
theorem dX1_sweep_151 : decode cX1_sweep 151 = .ok (.ifCond .eq 40, 3) := by decide +kernel
theorem dX1_sweep_154 : decode cX1_sweep 154 = .ok (.iload 4, 2) := by decide +kernel
theorem dX1_sweep_156 : decode cX1_sweep 156 = .ok (.lload 10, 2) := by decide +kernel
theorem dX1_sweep_158 : decode cX1_sweep 158 = .ok (.invokestatic 80, 3) := by decide +kernel
theorem dX1_sweep_161 : decode cX1_sweep 161 = .ok (.invokestatic 87, 3) := by decide +kernel
theorem dX1_sweep_164 : decode cX1_sweep 164 = .ok (.ifCond .eq 27, 3) := by decide +kernel
theorem dX1_sweep_167 : decode cX1_sweep 167 = .ok (.aload_n 0, 1) := by decide +kernel
theorem dX1_sweep_168 : decode cX1_sweep 168 = .ok (.dup, 1) := by decide +kernel
theorem dX1_sweep_169 : decode cX1_sweep 169 = .ok (.getfield 15, 3) := by decide +kernel
theorem dX1_sweep_172 : decode cX1_sweep 172 = .ok (.iconst 1, 1) := by decide +kernel
theorem dX1_sweep_173 : decode cX1_sweep 173 = .ok (.iadd, 1) := by decide +kernel
theorem dX1_sweep_174 : decode cX1_sweep 174 = .ok (.putfield 15, 3) := by decide +kernel
theorem dX1_sweep_177 : decode cX1_sweep 177 = .ok (.aload_n 0, 1) := by decide +kernel
theorem dX1_sweep_178 : decode cX1_sweep 178 = .ok (.iload_n 1, 1) := by decide +kernel
theorem dX1_sweep_179 : decode cX1_sweep 179 = .ok (.lload 12, 2) := by decide +kernel
theorem dX1_sweep_181 : decode cX1_sweep 181 = .ok (.iload 15, 2) := by decide +kernel
theorem dX1_sweep_183 : decode cX1_sweep 183 = .ok (.invokevirtual 91, 3) := by decide +kernel
theorem dX1_sweep_186 : decode cX1_sweep 186 = .ok (.lstore 12, 2) := by decide +kernel
theorem dX1_sweep_188 : decode cX1_sweep 188 = .ok (.goto 12, 3) := by decide +kernel
theorem dX1_sweep_191 : decode cX1_sweep 191 = .ok (.lload 12, 2) := by decide +kernel
theorem dX1_sweep_193 : decode cX1_sweep 193 = .ok (.iload 15, 2) := by decide +kernel
theorem dX1_sweep_195 : decode cX1_sweep 195 = .ok (.invokestatic 95, 3) := by decide +kernel
theorem dX1_sweep_198 : decode cX1_sweep 198 = .ok (.lstore 12, 2) := by decide +kernel
theorem dX1_sweep_200 : decode cX1_sweep 200 = .ok (.lload 12, 2) := by decide +kernel
theorem dX1_sweep_202 : decode cX1_sweep 202 = .ok (.invokestatic 99, 3) := by decide +kernel
theorem dX1_sweep_205 : decode cX1_sweep 205 = .ok (.ifCond .eq 5, 3) := by decide +kernel
theorem dX1_sweep_208 : decode cX1_sweep 208 = .ok (.lconst 0, 1) := by decide +kernel
theorem dX1_sweep_209 : decode cX1_sweep 209 = .ok (.lreturn, 1) := by decide +kernel
theorem dX1_sweep_210 : decode cX1_sweep 210 = .ok (.iload 15, 2) := by decide +kernel
theorem dX1_sweep_212 : decode cX1_sweep 212 = .ok (.istore 9, 2) := by decide +kernel
theorem dX1_sweep_214 : decode cX1_sweep 214 = .ok (.iinc 14 1, 3) := by decide +kernel
theorem dX1_sweep_217 : decode cX1_sweep 217 = .ok (.goto (-148), 3) := by decide +kernel
theorem dX1_sweep_220 : decode cX1_sweep 220 = .ok (.lload 12, 2) := by decide +kernel
theorem dX1_sweep_222 : decode cX1_sweep 222 = .ok (.lreturn, 1) := by decide +kernel
def rm_X1_sweep : Room := { frames := 2, cells := 0, slots := 0, locals := 46 }
def W_X1_sweep (E : en_T) (a_t a_t_how a_t_into a_t_kind a_t_setKind a_t_setYes a_t_setNo a_t_fitting : Nat) (v_t_count : Int32) (v_t_touched : Int32) (v_t_fitting : (Nat → Int32)) (v_t_how : (Nat → Int32)) (v_t_into : (Nat → Int32)) (v_t_kind : (Nat → Int32)) : va_W := [(a_t, .inr (1, [.int v_t_count, .int v_t_touched, .ref a_t_how, .ref a_t_into, .ref a_t_kind, .ref a_t_setKind, .ref a_t_setYes, .ref a_t_setNo, .ref a_t_fitting])), (a_t_fitting, .inl (en_I E, 48, .inl v_t_fitting)), (a_t_how, .inl (en_I E, 16, .inl v_t_how)), (a_t_into, .inl (en_I E, 16, .inl v_t_into)), (a_t_kind, .inl (en_I E, 16, .inl v_t_kind))]
def F_X1_sweep_200 (k69 : Int32 → Int64 → Int64 → Int32 → Int32 → Option (Int64 × Int32)) (x1 : Int32) (x4 : Int32) (x5 : Int32) (x6 : Int32) (x7 : Int32) (x8 : Int32) (x10 : Int64) (x12 : Int64) (x14 : Int32) (x15 : Int32) (v_t_touched : Int32) (v_t_how : (Nat → Int32)) (v_t_into : (Nat → Int32)) (v_t_kind : (Nat → Int32)) : Option (Int64 × Int32) := bn1_ (F_X9_isTooLong x12) (fun y1 => if y1 = (0 : Int32) then (lt_ (x14 + (1 : Int32)) (fun y4 => k69 x15 x10 x12 y4 v_t_touched)) else (some ((0 : Int64), v_t_touched)))
set_option maxHeartbeats 4000000 in
theorem w_X1_sweep_200 {B : bu_T} {a_t a_t_how a_t_into a_t_kind a_t_setKind a_t_setYes a_t_setNo a_t_fitting : Nat} {v_t_count : Int32} {v_t_touched : Int32} {v_t_fitting : (Nat → Int32)} {v_t_how : (Nat → Int32)} {v_t_into : (Nat → Int32)} {v_t_kind : (Nat → Int32)} {r : Int64} {o_t_touched : Int32} (K : cx B cX1_sweep "SoundDesk$Laws" rm_X1_sweep 17) (hQ : rt B cX1_sweep 17 (some .long) rm_X1_sweep (some (.long r)) (fun x => x = (W_X1_sweep (bu_E B) a_t a_t_how a_t_into a_t_kind a_t_setKind a_t_setYes a_t_setNo a_t_fitting v_t_count o_t_touched v_t_fitting v_t_how v_t_into v_t_kind))) {x1 : Int32} {x4 : Int32} {x5 : Int32} {x6 : Int32} {x7 : Int32} {x8 : Int32} {x10 : Int64} {x12 : Int64} {x14 : Int32} {x15 : Int32} {k69 : Int32 → Int64 → Int64 → Int32 → Int32 → Option (Int64 × Int32)} (hk69 : ∀ (x9 : Int32) (x10 : Int64) (x12 : Int64) (x14 : Int32) (v_t_touched : Int32), k69 x9 x10 x12 x14 v_t_touched = some (r, o_t_touched) → gg B 17 0 0 69 [(0, .ref a_t), (1, .int x1), (4, .int x4), (5, .int x5), (6, .int x6), (7, .int x7), (8, .int x8), (9, .int x9), (10, .long x10), (12, .long x12), (14, .int x14)] [] (W_X1_sweep (bu_E B) a_t a_t_how a_t_into a_t_kind a_t_setKind a_t_setYes a_t_setNo a_t_fitting v_t_count v_t_touched v_t_fitting v_t_how v_t_into v_t_kind)) (hF : F_X1_sweep_200 k69 x1 x4 x5 x6 x7 x8 x10 x12 x14 x15 v_t_touched v_t_how v_t_into v_t_kind = some (r, o_t_touched)) : gg B 17 0 0 200 [(0, .ref a_t), (1, .int x1), (4, .int x4), (5, .int x5), (6, .int x6), (7, .int x7), (8, .int x8), (10, .long x10), (12, .long x12), (14, .int x14), (15, .int x15)] [] (W_X1_sweep (bu_E B) a_t a_t_how a_t_into a_t_kind a_t_setKind a_t_setYes a_t_setNo a_t_fitting v_t_count v_t_touched v_t_fitting v_t_how v_t_into v_t_kind) := by
  unfold F_X1_sweep_200 at hF
  refine gg_lload (pc := 200) K 8 dX1_sweep_200 rfl ?_
  obtain ⟨y1, hc2, hF⟩ := bn1_some hF
  refine gg_dS (pc := 202) (st' := [.int y1]) (rest := []) (w' := (W_X1_sweep (bu_E B) a_t a_t_how a_t_into a_t_kind a_t_setKind a_t_setYes a_t_setNo a_t_fitting v_t_count v_t_touched v_t_fitting v_t_how v_t_into v_t_kind)) K (c_X9_isTooLong (bu_l B) (bu_E B) x12 hc2) ⟨rfl, rfl⟩ q_3_25 q_3_26 q_1_13 q_3_27 n_X9_isTooLong ⟨(Nat.le_of_ble_eq_true rfl), (Nat.le_of_ble_eq_true rfl)⟩ [] [false, false, false, false, false] rfl rfl rfl rfl rfl rfl (by decide) rfl rfl rfl ⟨Nat.zero_le _, Nat.zero_le _⟩ (Nat.le_of_ble_eq_true rfl) dX1_sweep_202 ?_
  refine gg_if_eq (pc := 205) K 210 dX1_sweep_205 rfl hF (fun c3 hF => ?_) (fun c3 hF => ?_)
  · refine gg_iload (pc := 210) K 10 dX1_sweep_210 rfl ?_
    refine gg_istore (pc := 212) (lv' := [(0, .ref a_t), (1, .int x1), (4, .int x4), (5, .int x5), (6, .int x6), (7, .int x7), (8, .int x8), (9, .int x15), (10, .long x10), (12, .long x12), (14, .int x14), (15, .int x15)]) K [1, 2, 3, 4, 5, 6, 7, 0, 8, 9, 10, 11] dX1_sweep_212 (by decide) rfl ?_
    refine gg_iinc (pc := 214) (v := (1 : Int32)) (lw := fun zz => [(0, .ref a_t), (1, .int x1), (4, .int x4), (5, .int x5), (6, .int x6), (7, .int x7), (8, .int x8), (9, .int x15), (10, .long x10), (12, .long x12), (14, .int zz), (15, .int x15)]) K 10 [1, 2, 3, 4, 5, 6, 7, 8, 9, 10, 0, 11] dX1_sweep_214 rfl rfl (by decide) hF (fun _ => rfl) (fun y4 ey4 hF => ?_)
    refine gg_goto (pc := 217) K 69 dX1_sweep_217 rfl ?_
    refine gg_sub [0, 1, 2, 3, 4, 5, 6, 7, 8, 9, 10] rfl ?_
    exact hk69 x15 x10 x12 y4 v_t_touched hF
  · refine gg_lconst (v := (0 : Int64)) (pc := 208) K dX1_sweep_208 (by decide) ?_
    cases hF
    exact (hQ _ _ _ rfl).2.2 _ rfl rfl dX1_sweep_209
def F_X1_sweep_191 (k69 : Int32 → Int64 → Int64 → Int32 → Int32 → Option (Int64 × Int32)) (x1 : Int32) (x4 : Int32) (x5 : Int32) (x6 : Int32) (x7 : Int32) (x8 : Int32) (x10 : Int64) (x12 : Int64) (x14 : Int32) (x15 : Int32) (v_t_touched : Int32) (v_t_how : (Nat → Int32)) (v_t_into : (Nat → Int32)) (v_t_kind : (Nat → Int32)) : Option (Int64 × Int32) := bn1_ (F_X9_add x12 x15) (fun y5 => F_X1_sweep_200 k69 x1 x4 x5 x6 x7 x8 x10 y5 x14 x15 v_t_touched v_t_how v_t_into v_t_kind)
set_option maxHeartbeats 4000000 in
theorem w_X1_sweep_191 {B : bu_T} {a_t a_t_how a_t_into a_t_kind a_t_setKind a_t_setYes a_t_setNo a_t_fitting : Nat} {v_t_count : Int32} {v_t_touched : Int32} {v_t_fitting : (Nat → Int32)} {v_t_how : (Nat → Int32)} {v_t_into : (Nat → Int32)} {v_t_kind : (Nat → Int32)} {r : Int64} {o_t_touched : Int32} (K : cx B cX1_sweep "SoundDesk$Laws" rm_X1_sweep 17) (hQ : rt B cX1_sweep 17 (some .long) rm_X1_sweep (some (.long r)) (fun x => x = (W_X1_sweep (bu_E B) a_t a_t_how a_t_into a_t_kind a_t_setKind a_t_setYes a_t_setNo a_t_fitting v_t_count o_t_touched v_t_fitting v_t_how v_t_into v_t_kind))) {x1 : Int32} {x4 : Int32} {x5 : Int32} {x6 : Int32} {x7 : Int32} {x8 : Int32} {x10 : Int64} {x12 : Int64} {x14 : Int32} {x15 : Int32} {k69 : Int32 → Int64 → Int64 → Int32 → Int32 → Option (Int64 × Int32)} (hk69 : ∀ (x9 : Int32) (x10 : Int64) (x12 : Int64) (x14 : Int32) (v_t_touched : Int32), k69 x9 x10 x12 x14 v_t_touched = some (r, o_t_touched) → gg B 17 0 0 69 [(0, .ref a_t), (1, .int x1), (4, .int x4), (5, .int x5), (6, .int x6), (7, .int x7), (8, .int x8), (9, .int x9), (10, .long x10), (12, .long x12), (14, .int x14)] [] (W_X1_sweep (bu_E B) a_t a_t_how a_t_into a_t_kind a_t_setKind a_t_setYes a_t_setNo a_t_fitting v_t_count v_t_touched v_t_fitting v_t_how v_t_into v_t_kind)) (hF : F_X1_sweep_191 k69 x1 x4 x5 x6 x7 x8 x10 x12 x14 x15 v_t_touched v_t_how v_t_into v_t_kind = some (r, o_t_touched)) : gg B 17 0 0 191 [(0, .ref a_t), (1, .int x1), (4, .int x4), (5, .int x5), (6, .int x6), (7, .int x7), (8, .int x8), (10, .long x10), (12, .long x12), (14, .int x14), (15, .int x15)] [] (W_X1_sweep (bu_E B) a_t a_t_how a_t_into a_t_kind a_t_setKind a_t_setYes a_t_setNo a_t_fitting v_t_count v_t_touched v_t_fitting v_t_how v_t_into v_t_kind) := by
  unfold F_X1_sweep_191 at hF
  refine gg_lload (pc := 191) K 8 dX1_sweep_191 rfl ?_
  refine gg_iload (pc := 193) K 10 dX1_sweep_193 rfl ?_
  obtain ⟨y5, hc6, hF⟩ := bn1_some hF
  refine gg_dS (pc := 195) (st' := [.long y5]) (rest := []) (w' := (W_X1_sweep (bu_E B) a_t a_t_how a_t_into a_t_kind a_t_setKind a_t_setYes a_t_setNo a_t_fitting v_t_count v_t_touched v_t_fitting v_t_how v_t_into v_t_kind)) K (c_X9_add (bu_l B) (bu_E B) x12 x15 hc6) ⟨rfl, rfl⟩ q_3_24 q_2_221 q_1_13 q_2_222 n_X9_add ⟨(Nat.le_of_ble_eq_true rfl), (Nat.le_of_ble_eq_true rfl)⟩ [] [false, false, false, false, false] rfl rfl rfl rfl rfl rfl (by decide) rfl rfl rfl ⟨Nat.zero_le _, Nat.zero_le _⟩ (Nat.le_of_ble_eq_true rfl) dX1_sweep_195 ?_
  refine gg_lstore (pc := 198) (lv' := [(0, .ref a_t), (1, .int x1), (4, .int x4), (5, .int x5), (6, .int x6), (7, .int x7), (8, .int x8), (10, .long x10), (12, .long y5), (14, .int x14), (15, .int x15)]) K [1, 2, 3, 4, 5, 6, 7, 8, 0, 9, 10] dX1_sweep_198 (by decide) rfl ?_
  exact w_X1_sweep_200 K hQ hk69 hF
def F_X1_sweep_148 (k69 : Int32 → Int64 → Int64 → Int32 → Int32 → Option (Int64 × Int32)) (x1 : Int32) (x4 : Int32) (x5 : Int32) (x6 : Int32) (x7 : Int32) (x8 : Int32) (x10 : Int64) (x12 : Int64) (x14 : Int32) (x15 : Int32) (s0 : Int32) (s1 : Int32) (v_t_touched : Int32) (v_t_how : (Nat → Int32)) (v_t_into : (Nat → Int32)) (v_t_kind : (Nat → Int32)) : Option (Int64 × Int32) := bn1_ (F_X1_isIn s0 s1) (fun y7 => if y7 = (0 : Int32) then (F_X1_sweep_191 k69 x1 x4 x5 x6 x7 x8 x10 x12 x14 x15 v_t_touched v_t_how v_t_into v_t_kind) else (bn1_ (F_X9_last x10) (fun y10 => bn1_ (F_X1_isIn x4 y10) (fun y12 => if y12 = (0 : Int32) then (F_X1_sweep_191 k69 x1 x4 x5 x6 x7 x8 x10 x12 x14 x15 v_t_touched v_t_how v_t_into v_t_kind) else (lt_ (v_t_touched + (1 : Int32)) (fun y15 => bn1_ (F_X1_addChanged x1 x12 x15 v_t_how v_t_into v_t_kind) (fun y16 => F_X1_sweep_200 k69 x1 x4 x5 x6 x7 x8 x10 y16 x14 x15 y15 v_t_how v_t_into v_t_kind)))))))
set_option maxHeartbeats 4000000 in
theorem w_X1_sweep_148 {B : bu_T} {a_t a_t_how a_t_into a_t_kind a_t_setKind a_t_setYes a_t_setNo a_t_fitting : Nat} {v_t_count : Int32} {v_t_touched : Int32} {v_t_fitting : (Nat → Int32)} {v_t_how : (Nat → Int32)} {v_t_into : (Nat → Int32)} {v_t_kind : (Nat → Int32)} {r : Int64} {o_t_touched : Int32} (K : cx B cX1_sweep "SoundDesk$Laws" rm_X1_sweep 17) (hQ : rt B cX1_sweep 17 (some .long) rm_X1_sweep (some (.long r)) (fun x => x = (W_X1_sweep (bu_E B) a_t a_t_how a_t_into a_t_kind a_t_setKind a_t_setYes a_t_setNo a_t_fitting v_t_count o_t_touched v_t_fitting v_t_how v_t_into v_t_kind))) {x1 : Int32} {x4 : Int32} {x5 : Int32} {x6 : Int32} {x7 : Int32} {x8 : Int32} {x10 : Int64} {x12 : Int64} {x14 : Int32} {x15 : Int32} {s0 : Int32} {s1 : Int32} {k69 : Int32 → Int64 → Int64 → Int32 → Int32 → Option (Int64 × Int32)} (hk69 : ∀ (x9 : Int32) (x10 : Int64) (x12 : Int64) (x14 : Int32) (v_t_touched : Int32), k69 x9 x10 x12 x14 v_t_touched = some (r, o_t_touched) → gg B 17 0 0 69 [(0, .ref a_t), (1, .int x1), (4, .int x4), (5, .int x5), (6, .int x6), (7, .int x7), (8, .int x8), (9, .int x9), (10, .long x10), (12, .long x12), (14, .int x14)] [] (W_X1_sweep (bu_E B) a_t a_t_how a_t_into a_t_kind a_t_setKind a_t_setYes a_t_setNo a_t_fitting v_t_count v_t_touched v_t_fitting v_t_how v_t_into v_t_kind)) (hF : F_X1_sweep_148 k69 x1 x4 x5 x6 x7 x8 x10 x12 x14 x15 s0 s1 v_t_touched v_t_how v_t_into v_t_kind = some (r, o_t_touched)) : gg B 17 0 0 148 [(0, .ref a_t), (1, .int x1), (4, .int x4), (5, .int x5), (6, .int x6), (7, .int x7), (8, .int x8), (10, .long x10), (12, .long x12), (14, .int x14), (15, .int x15)] [.int s1, .int s0] (W_X1_sweep (bu_E B) a_t a_t_how a_t_into a_t_kind a_t_setKind a_t_setYes a_t_setNo a_t_fitting v_t_count v_t_touched v_t_fitting v_t_how v_t_into v_t_kind) := by
  unfold F_X1_sweep_148 at hF
  obtain ⟨y7, hc8, hF⟩ := bn1_some hF
  refine gg_dS (pc := 148) (st' := [.int y7]) (rest := []) (w' := (W_X1_sweep (bu_E B) a_t a_t_how a_t_into a_t_kind a_t_setKind a_t_setYes a_t_setNo a_t_fitting v_t_count v_t_touched v_t_fitting v_t_how v_t_into v_t_kind)) K (c_X1_isIn (bu_l B) (bu_E B) s0 s1 hc8) ⟨rfl, rfl⟩ q_3_17 q_3_18 q_1_5 q_3_19 n_X1_isIn ⟨(Nat.le_of_ble_eq_true rfl), (Nat.le_of_ble_eq_true rfl)⟩ [] [false, false, false, false, false] rfl rfl rfl rfl rfl rfl (by decide) rfl rfl rfl ⟨Nat.zero_le _, Nat.zero_le _⟩ (Nat.le_of_ble_eq_true rfl) dX1_sweep_148 ?_
  refine gg_if_eq (pc := 151) K 191 dX1_sweep_151 rfl hF (fun c9 hF => ?_) (fun c9 hF => ?_)
  · exact w_X1_sweep_191 K hQ hk69 hF
  · refine gg_iload (pc := 154) K 2 dX1_sweep_154 rfl ?_
    refine gg_lload (pc := 156) K 7 dX1_sweep_156 rfl ?_
    obtain ⟨y10, hc11, hF⟩ := bn1_some hF
    refine gg_dS (pc := 158) (st' := [.int y10, .int x4]) (rest := [.int x4]) (w' := (W_X1_sweep (bu_E B) a_t a_t_how a_t_into a_t_kind a_t_setKind a_t_setYes a_t_setNo a_t_fitting v_t_count v_t_touched v_t_fitting v_t_how v_t_into v_t_kind)) K (c_X9_last (bu_l B) (bu_E B) x10 hc11) ⟨rfl, rfl⟩ q_3_12 q_3_13 q_1_13 q_3_14 n_X9_last ⟨(Nat.le_of_ble_eq_true rfl), (Nat.le_of_ble_eq_true rfl)⟩ [] [false, false, false, false, false] rfl rfl rfl rfl rfl rfl (by decide) rfl rfl rfl ⟨Nat.zero_le _, Nat.zero_le _⟩ (Nat.le_of_ble_eq_true rfl) dX1_sweep_158 ?_
    obtain ⟨y12, hc13, hF⟩ := bn1_some hF
    refine gg_dS (pc := 161) (st' := [.int y12]) (rest := []) (w' := (W_X1_sweep (bu_E B) a_t a_t_how a_t_into a_t_kind a_t_setKind a_t_setYes a_t_setNo a_t_fitting v_t_count v_t_touched v_t_fitting v_t_how v_t_into v_t_kind)) K (c_X1_isIn (bu_l B) (bu_E B) x4 y10 hc13) ⟨rfl, rfl⟩ q_3_17 q_3_18 q_1_5 q_3_19 n_X1_isIn ⟨(Nat.le_of_ble_eq_true rfl), (Nat.le_of_ble_eq_true rfl)⟩ [] [false, false, false, false, false] rfl rfl rfl rfl rfl rfl (by decide) rfl rfl rfl ⟨Nat.zero_le _, Nat.zero_le _⟩ (Nat.le_of_ble_eq_true rfl) dX1_sweep_161 ?_
    refine gg_if_eq (pc := 164) K 191 dX1_sweep_164 rfl hF (fun c14 hF => ?_) (fun c14 hF => ?_)
    · exact w_X1_sweep_191 K hQ hk69 hF
    · refine gg_aload_n (pc := 167) K 0 dX1_sweep_167 rfl rfl ?_
      refine gg_dup (pc := 168) K dX1_sweep_168 rfl ?_
      refine gg_get (pc := 169) K 0 1 i_X1 rfl rfl (by decide) q_1_71 rfl dX1_sweep_169 ?_
      refine gg_iconst (v := (1 : Int32)) (pc := 172) K dX1_sweep_172 (by decide) ?_
      refine gg_iadd (pc := 173) K dX1_sweep_173 ?_
      refine gg_puti (pc := 174) (wf := fun zz => (W_X1_sweep (bu_E B) a_t a_t_how a_t_into a_t_kind a_t_setKind a_t_setYes a_t_setNo a_t_fitting v_t_count zz v_t_fitting v_t_how v_t_into v_t_kind)) K 0 1 i_X1 tyX1_ok nmX1 rfl rfl (by decide) q_1_71 rfl (by decide +kernel) (Nat.le_of_ble_eq_true rfl) dX1_sweep_174 hF (fun _ => rfl) (fun y15 ey15 hF => ?_)
      refine gg_aload_n (pc := 177) K 0 dX1_sweep_177 rfl rfl ?_
      refine gg_iload_n (pc := 178) K 1 dX1_sweep_178 rfl rfl ?_
      refine gg_lload (pc := 179) K 8 dX1_sweep_179 rfl ?_
      refine gg_iload (pc := 181) K 10 dX1_sweep_181 rfl ?_
      obtain ⟨y16, hc17, hF⟩ := bn1_some hF
      refine gg_dV (pc := 183) (st' := [.long y16]) (rest := []) (w' := (W_X1_sweep (bu_E B) a_t a_t_how a_t_into a_t_kind a_t_setKind a_t_setYes a_t_setNo a_t_fitting v_t_count y15 v_t_fitting v_t_how v_t_into v_t_kind)) K (c_X1_addChanged (bu_l B) (bu_E B) a_t a_t_how a_t_into a_t_kind a_t_setKind a_t_setYes a_t_setNo a_t_fitting x1 x12 x15 v_t_count y15 v_t_how v_t_into v_t_kind hc17) ⟨rfl, rfl⟩ q_3_20 q_3_22 qs_3 q_1_5 q_3_23 n_X1_addChanged ⟨(Nat.le_of_ble_eq_true rfl), (Nat.le_of_ble_eq_true rfl)⟩ (ci := 1) rfl 0 rfl [0, 2, 3, 4] [true, false, true, true, true] rfl rfl rfl rfl rfl rfl (by decide) rfl rfl rfl ⟨Nat.zero_le _, Nat.zero_le _⟩ (Nat.le_of_ble_eq_true rfl) dX1_sweep_183 ?_
      refine gg_lstore (pc := 186) (lv' := [(0, .ref a_t), (1, .int x1), (4, .int x4), (5, .int x5), (6, .int x6), (7, .int x7), (8, .int x8), (10, .long x10), (12, .long y16), (14, .int x14), (15, .int x15)]) K [1, 2, 3, 4, 5, 6, 7, 8, 0, 9, 10] dX1_sweep_186 (by decide) rfl ?_
      refine gg_goto (pc := 188) K 200 dX1_sweep_188 rfl ?_
      exact w_X1_sweep_200 K hQ hk69 hF
def F_X1_sweep_114 (k69 : Int32 → Int64 → Int64 → Int32 → Int32 → Option (Int64 × Int32)) (x1 : Int32) (x4 : Int32) (x5 : Int32) (x6 : Int32) (x7 : Int32) (x8 : Int32) (x9 : Int32) (x10 : Int64) (x12 : Int64) (x14 : Int32) (x15 : Int32) (s0 : Int32) (v_t_touched : Int32) (v_t_how : (Nat → Int32)) (v_t_into : (Nat → Int32)) (v_t_kind : (Nat → Int32)) : Option (Int64 × Int32) := if s0 = (0 : Int32) then (bn1_ (F_X1_isIn x8 x15) (fun y19 => if y19 = (0 : Int32) then (F_X1_sweep_191 k69 x1 x4 x5 x6 x7 x8 x10 x12 x14 x15 v_t_touched v_t_how v_t_into v_t_kind) else (if x7 = (0 : Int32) then (F_X1_sweep_148 k69 x1 x4 x5 x6 x7 x8 x10 x12 x14 x15 x5 x9 v_t_touched v_t_how v_t_into v_t_kind) else (bn1_ (F_X9_last x12) (fun y23 => F_X1_sweep_148 k69 x1 x4 x5 x6 x7 x8 x10 x12 x14 x15 x5 y23 v_t_touched v_t_how v_t_into v_t_kind))))) else (F_X1_sweep_191 k69 x1 x4 x5 x6 x7 x8 x10 x12 x14 x15 v_t_touched v_t_how v_t_into v_t_kind)
set_option maxHeartbeats 4000000 in
theorem w_X1_sweep_114 {B : bu_T} {a_t a_t_how a_t_into a_t_kind a_t_setKind a_t_setYes a_t_setNo a_t_fitting : Nat} {v_t_count : Int32} {v_t_touched : Int32} {v_t_fitting : (Nat → Int32)} {v_t_how : (Nat → Int32)} {v_t_into : (Nat → Int32)} {v_t_kind : (Nat → Int32)} {r : Int64} {o_t_touched : Int32} (K : cx B cX1_sweep "SoundDesk$Laws" rm_X1_sweep 17) (hQ : rt B cX1_sweep 17 (some .long) rm_X1_sweep (some (.long r)) (fun x => x = (W_X1_sweep (bu_E B) a_t a_t_how a_t_into a_t_kind a_t_setKind a_t_setYes a_t_setNo a_t_fitting v_t_count o_t_touched v_t_fitting v_t_how v_t_into v_t_kind))) {x1 : Int32} {x4 : Int32} {x5 : Int32} {x6 : Int32} {x7 : Int32} {x8 : Int32} {x9 : Int32} {x10 : Int64} {x12 : Int64} {x14 : Int32} {x15 : Int32} {s0 : Int32} {k69 : Int32 → Int64 → Int64 → Int32 → Int32 → Option (Int64 × Int32)} (hk69 : ∀ (x9 : Int32) (x10 : Int64) (x12 : Int64) (x14 : Int32) (v_t_touched : Int32), k69 x9 x10 x12 x14 v_t_touched = some (r, o_t_touched) → gg B 17 0 0 69 [(0, .ref a_t), (1, .int x1), (4, .int x4), (5, .int x5), (6, .int x6), (7, .int x7), (8, .int x8), (9, .int x9), (10, .long x10), (12, .long x12), (14, .int x14)] [] (W_X1_sweep (bu_E B) a_t a_t_how a_t_into a_t_kind a_t_setKind a_t_setYes a_t_setNo a_t_fitting v_t_count v_t_touched v_t_fitting v_t_how v_t_into v_t_kind)) (hF : F_X1_sweep_114 k69 x1 x4 x5 x6 x7 x8 x9 x10 x12 x14 x15 s0 v_t_touched v_t_how v_t_into v_t_kind = some (r, o_t_touched)) : gg B 17 0 0 114 [(0, .ref a_t), (1, .int x1), (4, .int x4), (5, .int x5), (6, .int x6), (7, .int x7), (8, .int x8), (9, .int x9), (10, .long x10), (12, .long x12), (14, .int x14), (15, .int x15)] [.int s0] (W_X1_sweep (bu_E B) a_t a_t_how a_t_into a_t_kind a_t_setKind a_t_setYes a_t_setNo a_t_fitting v_t_count v_t_touched v_t_fitting v_t_how v_t_into v_t_kind) := by
  unfold F_X1_sweep_114 at hF
  refine gg_istore (pc := 114) (lv' := [(0, .ref a_t), (1, .int x1), (4, .int x4), (5, .int x5), (6, .int x6), (7, .int x7), (8, .int x8), (9, .int x9), (10, .long x10), (12, .long x12), (14, .int x14), (15, .int x15), (16, .int s0)]) K [1, 2, 3, 4, 5, 6, 7, 8, 9, 10, 11, 12, 0] dX1_sweep_114 (by decide) rfl ?_
  refine gg_iload (pc := 116) K 12 dX1_sweep_116 rfl ?_
  refine gg_if_ne (pc := 118) K 191 dX1_sweep_118 rfl hF (fun c18 hF => ?_) (fun c18 hF => ?_)
  · refine gg_sub [0, 1, 2, 3, 4, 5, 6, 8, 9, 10, 11] rfl ?_
    exact w_X1_sweep_191 K hQ hk69 hF
  · refine gg_iload (pc := 121) K 6 dX1_sweep_121 rfl ?_
    refine gg_iload (pc := 123) K 11 dX1_sweep_123 rfl ?_
    obtain ⟨y19, hc20, hF⟩ := bn1_some hF
    refine gg_dS (pc := 125) (st' := [.int y19]) (rest := []) (w' := (W_X1_sweep (bu_E B) a_t a_t_how a_t_into a_t_kind a_t_setKind a_t_setYes a_t_setNo a_t_fitting v_t_count v_t_touched v_t_fitting v_t_how v_t_into v_t_kind)) K (c_X1_isIn (bu_l B) (bu_E B) x8 x15 hc20) ⟨rfl, rfl⟩ q_3_17 q_3_18 q_1_5 q_3_19 n_X1_isIn ⟨(Nat.le_of_ble_eq_true rfl), (Nat.le_of_ble_eq_true rfl)⟩ [] [false, false, false, false, false] rfl rfl rfl rfl rfl rfl (by decide) rfl rfl rfl ⟨Nat.zero_le _, Nat.zero_le _⟩ (Nat.le_of_ble_eq_true rfl) dX1_sweep_125 ?_
    refine gg_if_eq (pc := 128) K 191 dX1_sweep_128 rfl hF (fun c21 hF => ?_) (fun c21 hF => ?_)
    · refine gg_sub [0, 1, 2, 3, 4, 5, 6, 8, 9, 10, 11] rfl ?_
      exact w_X1_sweep_191 K hQ hk69 hF
    · refine gg_iload (pc := 131) K 3 dX1_sweep_131 rfl ?_
      refine gg_iload (pc := 133) K 5 dX1_sweep_133 rfl ?_
      refine gg_if_eq (pc := 135) K 146 dX1_sweep_135 rfl hF (fun c22 hF => ?_) (fun c22 hF => ?_)
      · refine gg_iload (pc := 146) K 7 dX1_sweep_146 rfl ?_
        refine gg_sub [0, 1, 2, 3, 4, 5, 6, 8, 9, 10, 11] rfl ?_
        exact w_X1_sweep_148 K hQ hk69 hF
      · refine gg_lload (pc := 138) K 9 dX1_sweep_138 rfl ?_
        obtain ⟨y23, hc24, hF⟩ := bn1_some hF
        refine gg_dS (pc := 140) (st' := [.int y23, .int x5]) (rest := [.int x5]) (w' := (W_X1_sweep (bu_E B) a_t a_t_how a_t_into a_t_kind a_t_setKind a_t_setYes a_t_setNo a_t_fitting v_t_count v_t_touched v_t_fitting v_t_how v_t_into v_t_kind)) K (c_X9_last (bu_l B) (bu_E B) x12 hc24) ⟨rfl, rfl⟩ q_3_12 q_3_13 q_1_13 q_3_14 n_X9_last ⟨(Nat.le_of_ble_eq_true rfl), (Nat.le_of_ble_eq_true rfl)⟩ [] [false, false, false, false, false] rfl rfl rfl rfl rfl rfl (by decide) rfl rfl rfl ⟨Nat.zero_le _, Nat.zero_le _⟩ (Nat.le_of_ble_eq_true rfl) dX1_sweep_140 ?_
        refine gg_goto (pc := 143) K 148 dX1_sweep_143 rfl ?_
        refine gg_sub [0, 1, 2, 3, 4, 5, 6, 8, 9, 10, 11] rfl ?_
        exact w_X1_sweep_148 K hQ hk69 hF
def F_X1_sweep_113 (k69 : Int32 → Int64 → Int64 → Int32 → Int32 → Option (Int64 × Int32)) (x1 : Int32) (x4 : Int32) (x5 : Int32) (x6 : Int32) (x7 : Int32) (x8 : Int32) (x9 : Int32) (x10 : Int64) (x12 : Int64) (x14 : Int32) (x15 : Int32) (v_t_touched : Int32) (v_t_how : (Nat → Int32)) (v_t_into : (Nat → Int32)) (v_t_kind : (Nat → Int32)) : Option (Int64 × Int32) := F_X1_sweep_114 k69 x1 x4 x5 x6 x7 x8 x9 x10 x12 x14 x15 (0 : Int32) v_t_touched v_t_how v_t_into v_t_kind
set_option maxHeartbeats 4000000 in
theorem w_X1_sweep_113 {B : bu_T} {a_t a_t_how a_t_into a_t_kind a_t_setKind a_t_setYes a_t_setNo a_t_fitting : Nat} {v_t_count : Int32} {v_t_touched : Int32} {v_t_fitting : (Nat → Int32)} {v_t_how : (Nat → Int32)} {v_t_into : (Nat → Int32)} {v_t_kind : (Nat → Int32)} {r : Int64} {o_t_touched : Int32} (K : cx B cX1_sweep "SoundDesk$Laws" rm_X1_sweep 17) (hQ : rt B cX1_sweep 17 (some .long) rm_X1_sweep (some (.long r)) (fun x => x = (W_X1_sweep (bu_E B) a_t a_t_how a_t_into a_t_kind a_t_setKind a_t_setYes a_t_setNo a_t_fitting v_t_count o_t_touched v_t_fitting v_t_how v_t_into v_t_kind))) {x1 : Int32} {x4 : Int32} {x5 : Int32} {x6 : Int32} {x7 : Int32} {x8 : Int32} {x9 : Int32} {x10 : Int64} {x12 : Int64} {x14 : Int32} {x15 : Int32} {k69 : Int32 → Int64 → Int64 → Int32 → Int32 → Option (Int64 × Int32)} (hk69 : ∀ (x9 : Int32) (x10 : Int64) (x12 : Int64) (x14 : Int32) (v_t_touched : Int32), k69 x9 x10 x12 x14 v_t_touched = some (r, o_t_touched) → gg B 17 0 0 69 [(0, .ref a_t), (1, .int x1), (4, .int x4), (5, .int x5), (6, .int x6), (7, .int x7), (8, .int x8), (9, .int x9), (10, .long x10), (12, .long x12), (14, .int x14)] [] (W_X1_sweep (bu_E B) a_t a_t_how a_t_into a_t_kind a_t_setKind a_t_setYes a_t_setNo a_t_fitting v_t_count v_t_touched v_t_fitting v_t_how v_t_into v_t_kind)) (hF : F_X1_sweep_113 k69 x1 x4 x5 x6 x7 x8 x9 x10 x12 x14 x15 v_t_touched v_t_how v_t_into v_t_kind = some (r, o_t_touched)) : gg B 17 0 0 113 [(0, .ref a_t), (1, .int x1), (4, .int x4), (5, .int x5), (6, .int x6), (7, .int x7), (8, .int x8), (9, .int x9), (10, .long x10), (12, .long x12), (14, .int x14), (15, .int x15)] [] (W_X1_sweep (bu_E B) a_t a_t_how a_t_into a_t_kind a_t_setKind a_t_setYes a_t_setNo a_t_fitting v_t_count v_t_touched v_t_fitting v_t_how v_t_into v_t_kind) := by
  unfold F_X1_sweep_113 at hF
  refine gg_iconst (v := (0 : Int32)) (pc := 113) K dX1_sweep_113 (by decide) ?_
  exact w_X1_sweep_114 K hQ hk69 hF
def F_X1_sweep_69 (k69 : Int32 → Int64 → Int64 → Int32 → Int32 → Option (Int64 × Int32)) (x1 : Int32) (x4 : Int32) (x5 : Int32) (x6 : Int32) (x7 : Int32) (x8 : Int32) (x9 : Int32) (x10 : Int64) (x12 : Int64) (x14 : Int32) (v_t_touched : Int32) (v_t_how : (Nat → Int32)) (v_t_into : (Nat → Int32)) (v_t_kind : (Nat → Int32)) : Option (Int64 × Int32) := if (16 : Int32) ≤ x14 then (some (x12, v_t_touched)) else (if x10 ≤ (1 : Int64) then (some (x12, v_t_touched)) else (bn1_ (F_X9_last x10) (fun y27 => bn1_ (F_X9_withoutLast x10) (fun y29 => if x6 = (0 : Int32) then (F_X1_sweep_113 k69 x1 x4 x5 x6 x7 x8 x9 y29 x12 x14 y27 v_t_touched v_t_how v_t_into v_t_kind) else (if v_t_touched ≤ (0 : Int32) then (F_X1_sweep_113 k69 x1 x4 x5 x6 x7 x8 x9 y29 x12 x14 y27 v_t_touched v_t_how v_t_into v_t_kind) else (F_X1_sweep_114 k69 x1 x4 x5 x6 x7 x8 x9 y29 x12 x14 y27 (1 : Int32) v_t_touched v_t_how v_t_into v_t_kind))))))
set_option maxHeartbeats 4000000 in
theorem w_X1_sweep_69 {B : bu_T} {a_t a_t_how a_t_into a_t_kind a_t_setKind a_t_setYes a_t_setNo a_t_fitting : Nat} {v_t_count : Int32} {v_t_touched : Int32} {v_t_fitting : (Nat → Int32)} {v_t_how : (Nat → Int32)} {v_t_into : (Nat → Int32)} {v_t_kind : (Nat → Int32)} {r : Int64} {o_t_touched : Int32} (K : cx B cX1_sweep "SoundDesk$Laws" rm_X1_sweep 17) (hQ : rt B cX1_sweep 17 (some .long) rm_X1_sweep (some (.long r)) (fun x => x = (W_X1_sweep (bu_E B) a_t a_t_how a_t_into a_t_kind a_t_setKind a_t_setYes a_t_setNo a_t_fitting v_t_count o_t_touched v_t_fitting v_t_how v_t_into v_t_kind))) {x1 : Int32} {x4 : Int32} {x5 : Int32} {x6 : Int32} {x7 : Int32} {x8 : Int32} {x9 : Int32} {x10 : Int64} {x12 : Int64} {x14 : Int32} {k69 : Int32 → Int64 → Int64 → Int32 → Int32 → Option (Int64 × Int32)} (hk69 : ∀ (x9 : Int32) (x10 : Int64) (x12 : Int64) (x14 : Int32) (v_t_touched : Int32), k69 x9 x10 x12 x14 v_t_touched = some (r, o_t_touched) → gg B 17 0 0 69 [(0, .ref a_t), (1, .int x1), (4, .int x4), (5, .int x5), (6, .int x6), (7, .int x7), (8, .int x8), (9, .int x9), (10, .long x10), (12, .long x12), (14, .int x14)] [] (W_X1_sweep (bu_E B) a_t a_t_how a_t_into a_t_kind a_t_setKind a_t_setYes a_t_setNo a_t_fitting v_t_count v_t_touched v_t_fitting v_t_how v_t_into v_t_kind)) (hF : F_X1_sweep_69 k69 x1 x4 x5 x6 x7 x8 x9 x10 x12 x14 v_t_touched v_t_how v_t_into v_t_kind = some (r, o_t_touched)) : gg B 17 0 0 69 [(0, .ref a_t), (1, .int x1), (4, .int x4), (5, .int x5), (6, .int x6), (7, .int x7), (8, .int x8), (9, .int x9), (10, .long x10), (12, .long x12), (14, .int x14)] [] (W_X1_sweep (bu_E B) a_t a_t_how a_t_into a_t_kind a_t_setKind a_t_setYes a_t_setNo a_t_fitting v_t_count v_t_touched v_t_fitting v_t_how v_t_into v_t_kind) := by
  unfold F_X1_sweep_69 at hF
  refine gg_iload (pc := 69) K 10 dX1_sweep_69 rfl ?_
  refine gg_bipush (v := (16 : Int32)) (pc := 71) K dX1_sweep_71 (by decide) ?_
  refine gg_icmp_ge (pc := 73) K 220 dX1_sweep_73 rfl hF (fun c25 hF => ?_) (fun c25 hF => ?_)
  · refine gg_lload (pc := 220) K 9 dX1_sweep_220 rfl ?_
    cases hF
    exact (hQ _ _ _ rfl).2.2 _ rfl rfl dX1_sweep_222
  · refine gg_lload (pc := 76) K 8 dX1_sweep_76 rfl ?_
    refine gg_lconst (v := (1 : Int64)) (pc := 78) K dX1_sweep_78 (by decide) ?_
    refine gg_lcmp_le (pc := 79) K 220 dX1_sweep_79 dX1_sweep_80 rfl hF (fun c26 hF => ?_) (fun c26 hF => ?_)
    · refine gg_lload (pc := 220) K 9 dX1_sweep_220 rfl ?_
      cases hF
      exact (hQ _ _ _ rfl).2.2 _ rfl rfl dX1_sweep_222
    · refine gg_lload (pc := 83) K 8 dX1_sweep_83 rfl ?_
      obtain ⟨y27, hc28, hF⟩ := bn1_some hF
      refine gg_dS (pc := 85) (st' := [.int y27]) (rest := []) (w' := (W_X1_sweep (bu_E B) a_t a_t_how a_t_into a_t_kind a_t_setKind a_t_setYes a_t_setNo a_t_fitting v_t_count v_t_touched v_t_fitting v_t_how v_t_into v_t_kind)) K (c_X9_last (bu_l B) (bu_E B) x10 hc28) ⟨rfl, rfl⟩ q_3_12 q_3_13 q_1_13 q_3_14 n_X9_last ⟨(Nat.le_of_ble_eq_true rfl), (Nat.le_of_ble_eq_true rfl)⟩ [] [false, false, false, false, false] rfl rfl rfl rfl rfl rfl (by decide) rfl rfl rfl ⟨Nat.zero_le _, Nat.zero_le _⟩ (Nat.le_of_ble_eq_true rfl) dX1_sweep_85 ?_
      refine gg_istore (pc := 88) (lv' := [(0, .ref a_t), (1, .int x1), (4, .int x4), (5, .int x5), (6, .int x6), (7, .int x7), (8, .int x8), (9, .int x9), (10, .long x10), (12, .long x12), (14, .int x14), (15, .int y27)]) K [1, 2, 3, 4, 5, 6, 7, 8, 9, 10, 11, 0] dX1_sweep_88 (by decide) rfl ?_
      refine gg_lload (pc := 90) K 8 dX1_sweep_90 rfl ?_
      obtain ⟨y29, hc30, hF⟩ := bn1_some hF
      refine gg_dS (pc := 92) (st' := [.long y29]) (rest := []) (w' := (W_X1_sweep (bu_E B) a_t a_t_how a_t_into a_t_kind a_t_setKind a_t_setYes a_t_setNo a_t_fitting v_t_count v_t_touched v_t_fitting v_t_how v_t_into v_t_kind)) K (c_X9_withoutLast (bu_l B) (bu_E B) x10 hc30) ⟨rfl, rfl⟩ q_3_16 q_2_218 q_1_13 q_2_219 n_X9_withoutLast ⟨(Nat.le_of_ble_eq_true rfl), (Nat.le_of_ble_eq_true rfl)⟩ [] [false, false, false, false, false] rfl rfl rfl rfl rfl rfl (by decide) rfl rfl rfl ⟨Nat.zero_le _, Nat.zero_le _⟩ (Nat.le_of_ble_eq_true rfl) dX1_sweep_92 ?_
      refine gg_lstore (pc := 95) (lv' := [(0, .ref a_t), (1, .int x1), (4, .int x4), (5, .int x5), (6, .int x6), (7, .int x7), (8, .int x8), (9, .int x9), (10, .long y29), (12, .long x12), (14, .int x14), (15, .int y27)]) K [1, 2, 3, 4, 5, 6, 7, 8, 0, 9, 10, 11] dX1_sweep_95 (by decide) rfl ?_
      refine gg_iload (pc := 97) K 4 dX1_sweep_97 rfl ?_
      refine gg_if_eq (pc := 99) K 113 dX1_sweep_99 rfl hF (fun c31 hF => ?_) (fun c31 hF => ?_)
      · exact w_X1_sweep_113 K hQ hk69 hF
      · refine gg_aload_n (pc := 102) K 0 dX1_sweep_102 rfl rfl ?_
        refine gg_get (pc := 103) K 0 1 i_X1 rfl rfl (by decide) q_1_71 rfl dX1_sweep_103 ?_
        refine gg_if_le (pc := 106) K 113 dX1_sweep_106 rfl hF (fun c32 hF => ?_) (fun c32 hF => ?_)
        · exact w_X1_sweep_113 K hQ hk69 hF
        · refine gg_iconst (v := (1 : Int32)) (pc := 109) K dX1_sweep_109 (by decide) ?_
          refine gg_goto (pc := 110) K 114 dX1_sweep_110 rfl ?_
          exact w_X1_sweep_114 K hQ hk69 hF
def F_X1_sweep_69L  (x1 : Int32) (x4 : Int32) (x5 : Int32) (x6 : Int32) (x7 : Int32) (x8 : Int32) (v_t_how : (Nat → Int32)) (v_t_into : (Nat → Int32)) (v_t_kind : (Nat → Int32)) (fuel : Nat) (x9 : Int32) (x10 : Int64) (x12 : Int64) (x14 : Int32) (v_t_touched : Int32) : Option (Int64 × Int32) := lp5_ (fun k69 x9 x10 x12 x14 v_t_touched => F_X1_sweep_69 k69 x1 x4 x5 x6 x7 x8 x9 x10 x12 x14 v_t_touched v_t_how v_t_into v_t_kind) fuel x9 x10 x12 x14 v_t_touched
theorem w_X1_sweep_69L {B : bu_T} {a_t a_t_how a_t_into a_t_kind a_t_setKind a_t_setYes a_t_setNo a_t_fitting : Nat} {v_t_count : Int32} {v_t_fitting : (Nat → Int32)} {v_t_how : (Nat → Int32)} {v_t_into : (Nat → Int32)} {v_t_kind : (Nat → Int32)} {r : Int64} {o_t_touched : Int32} (K : cx B cX1_sweep "SoundDesk$Laws" rm_X1_sweep 17) (hQ : rt B cX1_sweep 17 (some .long) rm_X1_sweep (some (.long r)) (fun x => x = (W_X1_sweep (bu_E B) a_t a_t_how a_t_into a_t_kind a_t_setKind a_t_setYes a_t_setNo a_t_fitting v_t_count o_t_touched v_t_fitting v_t_how v_t_into v_t_kind))) {x1 : Int32} {x4 : Int32} {x5 : Int32} {x6 : Int32} {x7 : Int32} {x8 : Int32} : ∀ (fuel : Nat) (x9 : Int32) (x10 : Int64) (x12 : Int64) (x14 : Int32) (v_t_touched : Int32), F_X1_sweep_69L  x1 x4 x5 x6 x7 x8 v_t_how v_t_into v_t_kind fuel x9 x10 x12 x14 v_t_touched = some (r, o_t_touched) → gg B 17 0 0 69 [(0, .ref a_t), (1, .int x1), (4, .int x4), (5, .int x5), (6, .int x6), (7, .int x7), (8, .int x8), (9, .int x9), (10, .long x10), (12, .long x12), (14, .int x14)] [] (W_X1_sweep (bu_E B) a_t a_t_how a_t_into a_t_kind a_t_setKind a_t_setYes a_t_setNo a_t_fitting v_t_count v_t_touched v_t_fitting v_t_how v_t_into v_t_kind) := by
  intro fuel
  induction fuel with
  | zero => intro x9 x10 x12 x14 v_t_touched hF; exact absurd hF (by intro h; cases h)
  | succ fuel ih => intro x9 x10 x12 x14 v_t_touched hF; exact w_X1_sweep_69 K hQ ih hF
def F_X1_sweep_42  (x1 : Int32) (x2 : Int64) (x4 : Int32) (x5 : Int32) (x6 : Int32) (s0 : Int32) (v_t_touched : Int32) (v_t_fitting : (Nat → Int32)) (v_t_how : (Nat → Int32)) (v_t_into : (Nat → Int32)) (v_t_kind : (Nat → Int32)) : Option (Int64 × Int32) := bn1_ (F_X1_setPlace x1 (0 : Int32)) (fun y33 => ck_ y33 48 (lt_ (v_t_fitting (Int32.toNatClampNeg y33)) (fun y35 => F_X1_sweep_69L  x1 x4 x5 x6 s0 y35 v_t_how v_t_into v_t_kind fu_ (8 : Int32) x2 (1 : Int64) (0 : Int32) v_t_touched)))
set_option maxHeartbeats 4000000 in
theorem w_X1_sweep_42 {B : bu_T} {a_t a_t_how a_t_into a_t_kind a_t_setKind a_t_setYes a_t_setNo a_t_fitting : Nat} {v_t_count : Int32} {v_t_touched : Int32} {v_t_fitting : (Nat → Int32)} {v_t_how : (Nat → Int32)} {v_t_into : (Nat → Int32)} {v_t_kind : (Nat → Int32)} {r : Int64} {o_t_touched : Int32} (K : cx B cX1_sweep "SoundDesk$Laws" rm_X1_sweep 17) (hQ : rt B cX1_sweep 17 (some .long) rm_X1_sweep (some (.long r)) (fun x => x = (W_X1_sweep (bu_E B) a_t a_t_how a_t_into a_t_kind a_t_setKind a_t_setYes a_t_setNo a_t_fitting v_t_count o_t_touched v_t_fitting v_t_how v_t_into v_t_kind))) {x1 : Int32} {x2 : Int64} {x4 : Int32} {x5 : Int32} {x6 : Int32} {s0 : Int32} (hF : F_X1_sweep_42  x1 x2 x4 x5 x6 s0 v_t_touched v_t_fitting v_t_how v_t_into v_t_kind = some (r, o_t_touched)) : gg B 17 0 0 42 [(0, .ref a_t), (1, .int x1), (2, .long x2), (4, .int x4), (5, .int x5), (6, .int x6)] [.int s0] (W_X1_sweep (bu_E B) a_t a_t_how a_t_into a_t_kind a_t_setKind a_t_setYes a_t_setNo a_t_fitting v_t_count v_t_touched v_t_fitting v_t_how v_t_into v_t_kind) := by
  unfold F_X1_sweep_42 at hF
  refine gg_istore (pc := 42) (lv' := [(0, .ref a_t), (1, .int x1), (2, .long x2), (4, .int x4), (5, .int x5), (6, .int x6), (7, .int s0)]) K [1, 2, 3, 4, 5, 6, 0] dX1_sweep_42 (by decide) rfl ?_
  refine gg_aload_n (pc := 44) K 0 dX1_sweep_44 rfl rfl ?_
  refine gg_get (pc := 45) K 0 8 i_X1 rfl rfl (by decide) q_1_81 rfl dX1_sweep_45 ?_
  refine gg_iload_n (pc := 48) K 1 dX1_sweep_48 rfl rfl ?_
  refine gg_iconst (v := (0 : Int32)) (pc := 49) K dX1_sweep_49 (by decide) ?_
  obtain ⟨y33, hc34, hF⟩ := bn1_some hF
  refine gg_dS (pc := 50) (st' := [.int y33, .ref a_t_fitting]) (rest := [.ref a_t_fitting]) (w' := (W_X1_sweep (bu_E B) a_t a_t_how a_t_into a_t_kind a_t_setKind a_t_setYes a_t_setNo a_t_fitting v_t_count v_t_touched v_t_fitting v_t_how v_t_into v_t_kind)) K (c_X1_setPlace (bu_l B) (bu_E B) x1 (0 : Int32) hc34) ⟨rfl, rfl⟩ q_2_130 q_2_131 q_1_5 q_2_132 n_X1_setPlace ⟨(Nat.le_of_ble_eq_true rfl), (Nat.le_of_ble_eq_true rfl)⟩ [] [false, false, false, false, false] rfl rfl rfl rfl rfl rfl (by decide) rfl rfl rfl ⟨Nat.zero_le _, Nat.zero_le _⟩ (Nat.le_of_ble_eq_true rfl) dX1_sweep_50 ?_
  refine gg_iald (pc := 53) K 1 rfl dX1_sweep_53 hF (fun hF => ?_)
  refine gg_topi hF (fun y35 ey35 hF => ?_)
  refine gg_istore (pc := 54) (lv' := [(0, .ref a_t), (1, .int x1), (2, .long x2), (4, .int x4), (5, .int x5), (6, .int x6), (7, .int s0), (8, .int y35)]) K [1, 2, 3, 4, 5, 6, 7, 0] dX1_sweep_54 (by decide) rfl ?_
  refine gg_bipush (v := (8 : Int32)) (pc := 56) K dX1_sweep_56 (by decide) ?_
  refine gg_istore (pc := 58) (lv' := [(0, .ref a_t), (1, .int x1), (2, .long x2), (4, .int x4), (5, .int x5), (6, .int x6), (7, .int s0), (8, .int y35), (9, .int (8 : Int32))]) K [1, 2, 3, 4, 5, 6, 7, 8, 0] dX1_sweep_58 (by decide) rfl ?_
  refine gg_lload_n (pc := 60) K 2 dX1_sweep_60 rfl rfl ?_
  refine gg_lstore (pc := 61) (lv' := [(0, .ref a_t), (1, .int x1), (2, .long x2), (4, .int x4), (5, .int x5), (6, .int x6), (7, .int s0), (8, .int y35), (9, .int (8 : Int32)), (10, .long x2)]) K [1, 2, 3, 4, 5, 6, 7, 8, 9, 0] dX1_sweep_61 (by decide) rfl ?_
  refine gg_lconst (v := (1 : Int64)) (pc := 63) K dX1_sweep_63 (by decide) ?_
  refine gg_lstore (pc := 64) (lv' := [(0, .ref a_t), (1, .int x1), (2, .long x2), (4, .int x4), (5, .int x5), (6, .int x6), (7, .int s0), (8, .int y35), (9, .int (8 : Int32)), (10, .long x2), (12, .long (1 : Int64))]) K [1, 2, 3, 4, 5, 6, 7, 8, 9, 10, 0] dX1_sweep_64 (by decide) rfl ?_
  refine gg_iconst (v := (0 : Int32)) (pc := 66) K dX1_sweep_66 (by decide) ?_
  refine gg_istore (pc := 67) (lv' := [(0, .ref a_t), (1, .int x1), (2, .long x2), (4, .int x4), (5, .int x5), (6, .int x6), (7, .int s0), (8, .int y35), (9, .int (8 : Int32)), (10, .long x2), (12, .long (1 : Int64)), (14, .int (0 : Int32))]) K [1, 2, 3, 4, 5, 6, 7, 8, 9, 10, 11, 0] dX1_sweep_67 (by decide) rfl ?_
  refine gg_sub [0, 1, 3, 4, 5, 6, 7, 8, 9, 10, 11] rfl ?_
  exact w_X1_sweep_69L K hQ  _ (8 : Int32) x2 (1 : Int64) (0 : Int32) v_t_touched hF
def F_X1_sweep_37  (x1 : Int32) (x2 : Int64) (x4 : Int32) (x5 : Int32) (x6 : Int32) (v_t_touched : Int32) (v_t_fitting : (Nat → Int32)) (v_t_how : (Nat → Int32)) (v_t_into : (Nat → Int32)) (v_t_kind : (Nat → Int32)) : Option (Int64 × Int32) := F_X1_sweep_42  x1 x2 x4 x5 x6 (1 : Int32) v_t_touched v_t_fitting v_t_how v_t_into v_t_kind
set_option maxHeartbeats 4000000 in
theorem w_X1_sweep_37 {B : bu_T} {a_t a_t_how a_t_into a_t_kind a_t_setKind a_t_setYes a_t_setNo a_t_fitting : Nat} {v_t_count : Int32} {v_t_touched : Int32} {v_t_fitting : (Nat → Int32)} {v_t_how : (Nat → Int32)} {v_t_into : (Nat → Int32)} {v_t_kind : (Nat → Int32)} {r : Int64} {o_t_touched : Int32} (K : cx B cX1_sweep "SoundDesk$Laws" rm_X1_sweep 17) (hQ : rt B cX1_sweep 17 (some .long) rm_X1_sweep (some (.long r)) (fun x => x = (W_X1_sweep (bu_E B) a_t a_t_how a_t_into a_t_kind a_t_setKind a_t_setYes a_t_setNo a_t_fitting v_t_count o_t_touched v_t_fitting v_t_how v_t_into v_t_kind))) {x1 : Int32} {x2 : Int64} {x4 : Int32} {x5 : Int32} {x6 : Int32} (hF : F_X1_sweep_37  x1 x2 x4 x5 x6 v_t_touched v_t_fitting v_t_how v_t_into v_t_kind = some (r, o_t_touched)) : gg B 17 0 0 37 [(0, .ref a_t), (1, .int x1), (2, .long x2), (4, .int x4), (5, .int x5), (6, .int x6)] [] (W_X1_sweep (bu_E B) a_t a_t_how a_t_into a_t_kind a_t_setKind a_t_setYes a_t_setNo a_t_fitting v_t_count v_t_touched v_t_fitting v_t_how v_t_into v_t_kind) := by
  unfold F_X1_sweep_37 at hF
  refine gg_iconst (v := (1 : Int32)) (pc := 37) K dX1_sweep_37 (by decide) ?_
  refine gg_goto (pc := 38) K 42 dX1_sweep_38 rfl ?_
  exact w_X1_sweep_42 K hQ  hF
def F_X1_sweep_15  (x1 : Int32) (x2 : Int64) (x4 : Int32) (x5 : Int32) (s0 : Int32) (v_t_touched : Int32) (v_t_fitting : (Nat → Int32)) (v_t_how : (Nat → Int32)) (v_t_into : (Nat → Int32)) (v_t_kind : (Nat → Int32)) : Option (Int64 × Int32) := ck_ x1 16 (if (v_t_kind (Int32.toNatClampNeg x1)) = (1 : Int32) then (F_X1_sweep_37  x1 x2 x4 x5 s0 v_t_touched v_t_fitting v_t_how v_t_into v_t_kind) else (ck_ x1 16 (if (v_t_kind (Int32.toNatClampNeg x1)) = (2 : Int32) then (F_X1_sweep_37  x1 x2 x4 x5 s0 v_t_touched v_t_fitting v_t_how v_t_into v_t_kind) else (F_X1_sweep_42  x1 x2 x4 x5 s0 (0 : Int32) v_t_touched v_t_fitting v_t_how v_t_into v_t_kind))))
set_option maxHeartbeats 4000000 in
theorem w_X1_sweep_15 {B : bu_T} {a_t a_t_how a_t_into a_t_kind a_t_setKind a_t_setYes a_t_setNo a_t_fitting : Nat} {v_t_count : Int32} {v_t_touched : Int32} {v_t_fitting : (Nat → Int32)} {v_t_how : (Nat → Int32)} {v_t_into : (Nat → Int32)} {v_t_kind : (Nat → Int32)} {r : Int64} {o_t_touched : Int32} (K : cx B cX1_sweep "SoundDesk$Laws" rm_X1_sweep 17) (hQ : rt B cX1_sweep 17 (some .long) rm_X1_sweep (some (.long r)) (fun x => x = (W_X1_sweep (bu_E B) a_t a_t_how a_t_into a_t_kind a_t_setKind a_t_setYes a_t_setNo a_t_fitting v_t_count o_t_touched v_t_fitting v_t_how v_t_into v_t_kind))) {x1 : Int32} {x2 : Int64} {x4 : Int32} {x5 : Int32} {s0 : Int32} (hF : F_X1_sweep_15  x1 x2 x4 x5 s0 v_t_touched v_t_fitting v_t_how v_t_into v_t_kind = some (r, o_t_touched)) : gg B 17 0 0 15 [(0, .ref a_t), (1, .int x1), (2, .long x2), (4, .int x4), (5, .int x5)] [.int s0] (W_X1_sweep (bu_E B) a_t a_t_how a_t_into a_t_kind a_t_setKind a_t_setYes a_t_setNo a_t_fitting v_t_count v_t_touched v_t_fitting v_t_how v_t_into v_t_kind) := by
  unfold F_X1_sweep_15 at hF
  refine gg_istore (pc := 15) (lv' := [(0, .ref a_t), (1, .int x1), (2, .long x2), (4, .int x4), (5, .int x5), (6, .int s0)]) K [1, 2, 3, 4, 5, 0] dX1_sweep_15 (by decide) rfl ?_
  refine gg_aload_n (pc := 17) K 0 dX1_sweep_17 rfl rfl ?_
  refine gg_get (pc := 18) K 0 4 i_X1 rfl rfl (by decide) q_1_77 rfl dX1_sweep_18 ?_
  refine gg_iload_n (pc := 21) K 1 dX1_sweep_21 rfl rfl ?_
  refine gg_iald (pc := 22) K 4 rfl dX1_sweep_22 hF (fun hF => ?_)
  refine gg_iconst (v := (1 : Int32)) (pc := 23) K dX1_sweep_23 (by decide) ?_
  refine gg_icmp_eq (pc := 24) K 37 dX1_sweep_24 rfl hF (fun c36 hF => ?_) (fun c36 hF => ?_)
  · exact w_X1_sweep_37 K hQ  hF
  · refine gg_aload_n (pc := 27) K 0 dX1_sweep_27 rfl rfl ?_
    refine gg_get (pc := 28) K 0 4 i_X1 rfl rfl (by decide) q_1_77 rfl dX1_sweep_28 ?_
    refine gg_iload_n (pc := 31) K 1 dX1_sweep_31 rfl rfl ?_
    refine gg_iald (pc := 32) K 4 rfl dX1_sweep_32 hF (fun hF => ?_)
    refine gg_iconst (v := (2 : Int32)) (pc := 33) K dX1_sweep_33 (by decide) ?_
    refine gg_icmp_ne (pc := 34) K 41 dX1_sweep_34 rfl hF (fun c37 hF => ?_) (fun c37 hF => ?_)
    · refine gg_iconst (v := (0 : Int32)) (pc := 41) K dX1_sweep_41 (by decide) ?_
      exact w_X1_sweep_42 K hQ  hF
    · exact w_X1_sweep_37 K hQ  hF
def F_X1_sweep_0  (x1 : Int32) (x2 : Int64) (x4 : Int32) (x5 : Int32) (v_t_touched : Int32) (v_t_fitting : (Nat → Int32)) (v_t_how : (Nat → Int32)) (v_t_into : (Nat → Int32)) (v_t_kind : (Nat → Int32)) : Option (Int64 × Int32) := ck_ x1 16 (if (v_t_kind (Int32.toNatClampNeg x1)) = (3 : Int32) then (F_X1_sweep_15  x1 x2 x4 x5 (1 : Int32) v_t_touched v_t_fitting v_t_how v_t_into v_t_kind) else (F_X1_sweep_15  x1 x2 x4 x5 (0 : Int32) v_t_touched v_t_fitting v_t_how v_t_into v_t_kind))
set_option maxHeartbeats 4000000 in
theorem w_X1_sweep_0 {B : bu_T} {a_t a_t_how a_t_into a_t_kind a_t_setKind a_t_setYes a_t_setNo a_t_fitting : Nat} {v_t_count : Int32} {v_t_touched : Int32} {v_t_fitting : (Nat → Int32)} {v_t_how : (Nat → Int32)} {v_t_into : (Nat → Int32)} {v_t_kind : (Nat → Int32)} {r : Int64} {o_t_touched : Int32} (K : cx B cX1_sweep "SoundDesk$Laws" rm_X1_sweep 17) (hQ : rt B cX1_sweep 17 (some .long) rm_X1_sweep (some (.long r)) (fun x => x = (W_X1_sweep (bu_E B) a_t a_t_how a_t_into a_t_kind a_t_setKind a_t_setYes a_t_setNo a_t_fitting v_t_count o_t_touched v_t_fitting v_t_how v_t_into v_t_kind))) {x1 : Int32} {x2 : Int64} {x4 : Int32} {x5 : Int32} (hF : F_X1_sweep_0  x1 x2 x4 x5 v_t_touched v_t_fitting v_t_how v_t_into v_t_kind = some (r, o_t_touched)) : gg B 17 0 0 0 [(0, .ref a_t), (1, .int x1), (2, .long x2), (4, .int x4), (5, .int x5)] [] (W_X1_sweep (bu_E B) a_t a_t_how a_t_into a_t_kind a_t_setKind a_t_setYes a_t_setNo a_t_fitting v_t_count v_t_touched v_t_fitting v_t_how v_t_into v_t_kind) := by
  unfold F_X1_sweep_0 at hF
  refine gg_aload_n (pc := 0) K 0 dX1_sweep_0 rfl rfl ?_
  refine gg_get (pc := 1) K 0 4 i_X1 rfl rfl (by decide) q_1_77 rfl dX1_sweep_1 ?_
  refine gg_iload_n (pc := 4) K 1 dX1_sweep_4 rfl rfl ?_
  refine gg_iald (pc := 5) K 4 rfl dX1_sweep_5 hF (fun hF => ?_)
  refine gg_iconst (v := (3 : Int32)) (pc := 6) K dX1_sweep_6 (by decide) ?_
  refine gg_icmp_ne (pc := 7) K 14 dX1_sweep_7 rfl hF (fun c38 hF => ?_) (fun c38 hF => ?_)
  · refine gg_iconst (v := (0 : Int32)) (pc := 14) K dX1_sweep_14 (by decide) ?_
    exact w_X1_sweep_15 K hQ  hF
  · refine gg_iconst (v := (1 : Int32)) (pc := 10) K dX1_sweep_10 (by decide) ?_
    refine gg_goto (pc := 11) K 15 dX1_sweep_11 rfl ?_
    exact w_X1_sweep_15 K hQ  hF
def F_X1_sweep (x1 : Int32) (x2 : Int64) (x4 : Int32) (x5 : Int32) (v_t_touched : Int32) (v_t_fitting : (Nat → Int32)) (v_t_how : (Nat → Int32)) (v_t_into : (Nat → Int32)) (v_t_kind : (Nat → Int32)) : Option (Int64 × Int32) := F_X1_sweep_0 x1 x2 x4 x5 v_t_touched v_t_fitting v_t_how v_t_into v_t_kind
theorem n_X1_sweep : yX1_sweep.cls = "SoundDesk$Laws" ∧ yX1_sweep.cls ≠ "java/lang/invoke/MethodHandle" ∧ yX1_sweep.cls ≠ "java/lang/invoke/VarHandle" ∧ (parseMethodDescriptor yX1_sweep.desc).map (fun d => d.parameters.length) = some 4 := by decide +kernel
theorem c_X1_sweep (l : Launch) (E : en_T) (a_t a_t_how a_t_into a_t_kind a_t_setKind a_t_setYes a_t_setNo a_t_fitting : Nat) (x1 : Int32) (x2 : Int64) (x4 : Int32) (x5 : Int32) (v_t_count : Int32) (v_t_touched : Int32) (v_t_fitting : (Nat → Int32)) (v_t_how : (Nat → Int32)) (v_t_into : (Nat → Int32)) (v_t_kind : (Nat → Int32)) {r : Int64} {o_t_touched : Int32} (hF : F_X1_sweep x1 x2 x4 x5 v_t_touched v_t_fitting v_t_how v_t_into v_t_kind = some (r, o_t_touched)) : ct l yX1_sweep cX1_sweep 17 (some .long) rm_X1_sweep E [.ref a_t, .int x1, .long x2, .int x4, .int x5] (W_X1_sweep E a_t a_t_how a_t_into a_t_kind a_t_setKind a_t_setYes a_t_setNo a_t_fitting v_t_count v_t_touched v_t_fitting v_t_how v_t_into v_t_kind) (some (.long r)) (fun x => x = (W_X1_sweep E a_t a_t_how a_t_into a_t_kind a_t_setKind a_t_setYes a_t_setNo a_t_fitting v_t_count o_t_touched v_t_fitting v_t_how v_t_into v_t_kind)) := by
  refine ct_of (by decide +kernel) (Nat.le_of_ble_eq_true rfl) (fun B hl hE _ K hQ => ?_)
  subst hl; subst hE
  refine gg_sub (lv' := [(0, .ref a_t), (1, .int x1), (2, .long x2), (4, .int x4), (5, .int x5)]) [0, 1, 2, 3, 4] rfl ?_
  exact w_X1_sweep_0 K hQ hF
theorem dX1_lead_0 : decode cX1_lead 0 = .ok (.aload_n 0, 1) := by decide +kernel
theorem dX1_lead_1 : decode cX1_lead 1 = .ok (.iconst 0, 1) := by decide +kernel
theorem dX1_lead_2 : decode cX1_lead 2 = .ok (.putfield 15, 3) := by decide +kernel
theorem dX1_lead_5 : decode cX1_lead 5 = .ok (.lload_n 2, 1) := by decide +kernel
theorem dX1_lead_6 : decode cX1_lead 6 = .ok (.lconst 0, 1) := by decide +kernel
theorem dX1_lead_7 : decode cX1_lead 7 = .ok (.lcmp, 1) := by decide +kernel
theorem dX1_lead_8 : decode cX1_lead 8 = .ok (.ifCond .ne 5, 3) := by decide +kernel
theorem dX1_lead_11 : decode cX1_lead 11 = .ok (.lconst 0, 1) := by decide +kernel
theorem dX1_lead_12 : decode cX1_lead 12 = .ok (.lreturn, 1) := by decide +kernel
theorem dX1_lead_13 : decode cX1_lead 13 = .ok (.aload_n 0, 1) := by decide +kernel
theorem dX1_lead_14 : decode cX1_lead 14 = .ok (.getfield 37, 3) := by decide +kernel
theorem dX1_lead_17 : decode cX1_lead 17 = .ok (.iload_n 1, 1) := by decide +kernel
theorem dX1_lead_18 : decode cX1_lead 18 = .ok (.iconst 1, 1) := by decide +kernel
theorem dX1_lead_19 : decode cX1_lead 19 = .ok (.invokestatic 55, 3) := by decide +kernel
theorem dX1_lead_22 : decode cX1_lead 22 = .ok (.iaload, 1) := by decide +kernel
theorem dX1_lead_23 : decode cX1_lead 23 = .ok (.istore 4, 2) := by decide +kernel
theorem dX1_lead_25 : decode cX1_lead 25 = .ok (.aload_n 0, 1) := by decide +kernel
theorem dX1_lead_26 : decode cX1_lead 26 = .ok (.getfield 37, 3) := by decide +kernel
theorem dX1_lead_29 : decode cX1_lead 29 = .ok (.iload_n 1, 1) := by decide +kernel
theorem dX1_lead_30 : decode cX1_lead 30 = .ok (.iconst 2, 1) := by decide +kernel
theorem dX1_lead_31 : decode cX1_lead 31 = .ok (.invokestatic 55, 3) := by decide +kernel
theorem dX1_lead_34 : decode cX1_lead 34 = .ok (.iaload, 1) := by decide +kernel
theorem dX1_lead_35 : decode cX1_lead 35 = .ok (.istore 5, 2) := by decide +kernel
theorem dX1_lead_37 : decode cX1_lead 37 = .ok (.aload_n 0, 1) := by decide +kernel
theorem dX1_lead_38 : decode cX1_lead 38 = .ok (.getfield 25, 3) := by decide +kernel
theorem dX1_lead_41 : decode cX1_lead 41 = .ok (.iload_n 1, 1) := by decide +kernel
theorem dX1_lead_42 : decode cX1_lead 42 = .ok (.iaload, 1) := by decide +kernel
theorem dX1_lead_43 : decode cX1_lead 43 = .ok (.iconst 1, 1) := by decide +kernel
theorem dX1_lead_44 : decode cX1_lead 44 = .ok (.if_icmp .ne 17, 3) := by decide +kernel
theorem dX1_lead_47 : decode cX1_lead 47 = .ok (.aload_n 0, 1) := by decide +kernel
theorem dX1_lead_48 : decode cX1_lead 48 = .ok (.iload_n 1, 1) := by decide +kernel
theorem dX1_lead_49 : decode cX1_lead 49 = .ok (.lload_n 2, 1) := by decide +kernel
theorem dX1_lead_50 : decode cX1_lead 50 = .ok (.iload 4, 2) := by decide +kernel
theorem dX1_lead_52 : decode cX1_lead 52 = .ok (.iload 5, 2) := by decide +kernel
theorem dX1_lead_54 : decode cX1_lead 54 = .ok (.invokevirtual 72, 3) := by decide +kernel
theorem dX1_lead_57 : decode cX1_lead 57 = .ok (.invokestatic 76, 3) := by decide +kernel
theorem dX1_lead_60 : decode cX1_lead 60 = .ok (.lreturn, 1) := by decide +kernel
theorem dX1_lead_61 : decode cX1_lead 61 = .ok (.aload_n 0, 1) := by decide +kernel
theorem dX1_lead_62 : decode cX1_lead 62 = .ok (.iload_n 1, 1) := by decide +kernel
theorem dX1_lead_63 : decode cX1_lead 63 = .ok (.lload_n 2, 1) := by decide +kernel
theorem dX1_lead_64 : decode cX1_lead 64 = .ok (.invokestatic 76, 3) := by decide +kernel
theorem dX1_lead_67 : decode cX1_lead 67 = .ok (.iload 5, 2) := by decide +kernel
theorem dX1_lead_69 : decode cX1_lead 69 = .ok (.iload 4, 2) := by decide +kernel
theorem dX1_lead_71 : decode cX1_lead 71 = .ok (.invokevirtual 72, 3) := by decide +kernel
theorem dX1_lead_74 : decode cX1_lead 74 = .ok (.lreturn, 1) := by decide +kernel
def rm_X1_lead : Room := { frames := 3, cells := 0, slots := 0, locals := 82 }
def W_X1_lead (E : en_T) (a_t a_t_how a_t_into a_t_kind a_t_setKind a_t_setYes a_t_setNo a_t_fitting : Nat) (v_t_count : Int32) (v_t_touched : Int32) (v_t_fitting : (Nat → Int32)) (v_t_how : (Nat → Int32)) (v_t_into : (Nat → Int32)) (v_t_kind : (Nat → Int32)) : va_W := [(a_t, .inr (1, [.int v_t_count, .int v_t_touched, .ref a_t_how, .ref a_t_into, .ref a_t_kind, .ref a_t_setKind, .ref a_t_setYes, .ref a_t_setNo, .ref a_t_fitting])), (a_t_fitting, .inl (en_I E, 48, .inl v_t_fitting)), (a_t_how, .inl (en_I E, 16, .inl v_t_how)), (a_t_into, .inl (en_I E, 16, .inl v_t_into)), (a_t_kind, .inl (en_I E, 16, .inl v_t_kind))]
def F_X1_lead_0  (x1 : Int32) (x2 : Int64) (v_t_touched : Int32) (v_t_fitting : (Nat → Int32)) (v_t_how : (Nat → Int32)) (v_t_into : (Nat → Int32)) (v_t_kind : (Nat → Int32)) : Option (Int64 × Int32) := lt_ (0 : Int32) (fun y1 => if x2 = (0 : Int64) then (some ((0 : Int64), y1)) else (bn1_ (F_X1_setPlace x1 (1 : Int32)) (fun y3 => ck_ y3 48 (lt_ (v_t_fitting (Int32.toNatClampNeg y3)) (fun y5 => bn1_ (F_X1_setPlace x1 (2 : Int32)) (fun y6 => ck_ y6 48 (lt_ (v_t_fitting (Int32.toNatClampNeg y6)) (fun y8 => ck_ x1 16 (if (v_t_kind (Int32.toNatClampNeg x1)) = (1 : Int32) then (bn2_ (F_X1_sweep x1 x2 y5 y8 y1 v_t_fitting v_t_how v_t_into v_t_kind) (fun y16 o15 => bn1_ (F_X9_turned y16) (fun y18 => some (y18, o15)))) else (bn1_ (F_X9_turned x2) (fun y10 => bn2_ (F_X1_sweep x1 y10 y8 y5 y1 v_t_fitting v_t_how v_t_into v_t_kind) (fun y13 o12 => some (y13, o12)))))))))))))
set_option maxHeartbeats 4000000 in
theorem w_X1_lead_0 {B : bu_T} {a_t a_t_how a_t_into a_t_kind a_t_setKind a_t_setYes a_t_setNo a_t_fitting : Nat} {v_t_count : Int32} {v_t_touched : Int32} {v_t_fitting : (Nat → Int32)} {v_t_how : (Nat → Int32)} {v_t_into : (Nat → Int32)} {v_t_kind : (Nat → Int32)} {r : Int64} {o_t_touched : Int32} (K : cx B cX1_lead "SoundDesk$Laws" rm_X1_lead 6) (hQ : rt B cX1_lead 6 (some .long) rm_X1_lead (some (.long r)) (fun x => x = (W_X1_lead (bu_E B) a_t a_t_how a_t_into a_t_kind a_t_setKind a_t_setYes a_t_setNo a_t_fitting v_t_count o_t_touched v_t_fitting v_t_how v_t_into v_t_kind))) {x1 : Int32} {x2 : Int64} (hF : F_X1_lead_0  x1 x2 v_t_touched v_t_fitting v_t_how v_t_into v_t_kind = some (r, o_t_touched)) : gg B 6 0 0 0 [(0, .ref a_t), (1, .int x1), (2, .long x2)] [] (W_X1_lead (bu_E B) a_t a_t_how a_t_into a_t_kind a_t_setKind a_t_setYes a_t_setNo a_t_fitting v_t_count v_t_touched v_t_fitting v_t_how v_t_into v_t_kind) := by
  unfold F_X1_lead_0 at hF
  refine gg_aload_n (pc := 0) K 0 dX1_lead_0 rfl rfl ?_
  refine gg_iconst (v := (0 : Int32)) (pc := 1) K dX1_lead_1 (by decide) ?_
  refine gg_puti (pc := 2) (wf := fun zz => (W_X1_lead (bu_E B) a_t a_t_how a_t_into a_t_kind a_t_setKind a_t_setYes a_t_setNo a_t_fitting v_t_count zz v_t_fitting v_t_how v_t_into v_t_kind)) K 0 1 i_X1 tyX1_ok nmX1 rfl rfl (by decide) q_1_71 rfl (by decide +kernel) (Nat.le_of_ble_eq_true rfl) dX1_lead_2 hF (fun _ => rfl) (fun y1 ey1 hF => ?_)
  refine gg_lload_n (pc := 5) K 2 dX1_lead_5 rfl rfl ?_
  refine gg_lconst (v := (0 : Int64)) (pc := 6) K dX1_lead_6 (by decide) ?_
  refine gg_lcmp_ne (pc := 7) K 13 dX1_lead_7 dX1_lead_8 rfl hF (fun c2 hF => ?_) (fun c2 hF => ?_)
  · refine gg_aload_n (pc := 13) K 0 dX1_lead_13 rfl rfl ?_
    refine gg_get (pc := 14) K 0 8 i_X1 rfl rfl (by decide) q_1_81 rfl dX1_lead_14 ?_
    refine gg_iload_n (pc := 17) K 1 dX1_lead_17 rfl rfl ?_
    refine gg_iconst (v := (1 : Int32)) (pc := 18) K dX1_lead_18 (by decide) ?_
    obtain ⟨y3, hc4, hF⟩ := bn1_some hF
    refine gg_dS (pc := 19) (st' := [.int y3, .ref a_t_fitting]) (rest := [.ref a_t_fitting]) (w' := (W_X1_lead (bu_E B) a_t a_t_how a_t_into a_t_kind a_t_setKind a_t_setYes a_t_setNo a_t_fitting v_t_count y1 v_t_fitting v_t_how v_t_into v_t_kind)) K (c_X1_setPlace (bu_l B) (bu_E B) x1 (1 : Int32) hc4) ⟨rfl, rfl⟩ q_2_130 q_2_131 q_1_5 q_2_132 n_X1_setPlace ⟨(Nat.le_of_ble_eq_true rfl), (Nat.le_of_ble_eq_true rfl)⟩ [] [false, false, false, false, false] rfl rfl rfl rfl rfl rfl (by decide) rfl rfl rfl ⟨Nat.zero_le _, Nat.zero_le _⟩ (Nat.le_of_ble_eq_true rfl) dX1_lead_19 ?_
    refine gg_iald (pc := 22) K 1 rfl dX1_lead_22 hF (fun hF => ?_)
    refine gg_topi hF (fun y5 ey5 hF => ?_)
    refine gg_istore (pc := 23) (lv' := [(0, .ref a_t), (1, .int x1), (2, .long x2), (4, .int y5)]) K [1, 2, 3, 0] dX1_lead_23 (by decide) rfl ?_
    refine gg_aload_n (pc := 25) K 0 dX1_lead_25 rfl rfl ?_
    refine gg_get (pc := 26) K 0 8 i_X1 rfl rfl (by decide) q_1_81 rfl dX1_lead_26 ?_
    refine gg_iload_n (pc := 29) K 1 dX1_lead_29 rfl rfl ?_
    refine gg_iconst (v := (2 : Int32)) (pc := 30) K dX1_lead_30 (by decide) ?_
    obtain ⟨y6, hc7, hF⟩ := bn1_some hF
    refine gg_dS (pc := 31) (st' := [.int y6, .ref a_t_fitting]) (rest := [.ref a_t_fitting]) (w' := (W_X1_lead (bu_E B) a_t a_t_how a_t_into a_t_kind a_t_setKind a_t_setYes a_t_setNo a_t_fitting v_t_count y1 v_t_fitting v_t_how v_t_into v_t_kind)) K (c_X1_setPlace (bu_l B) (bu_E B) x1 (2 : Int32) hc7) ⟨rfl, rfl⟩ q_2_130 q_2_131 q_1_5 q_2_132 n_X1_setPlace ⟨(Nat.le_of_ble_eq_true rfl), (Nat.le_of_ble_eq_true rfl)⟩ [] [false, false, false, false, false] rfl rfl rfl rfl rfl rfl (by decide) rfl rfl rfl ⟨Nat.zero_le _, Nat.zero_le _⟩ (Nat.le_of_ble_eq_true rfl) dX1_lead_31 ?_
    refine gg_iald (pc := 34) K 1 rfl dX1_lead_34 hF (fun hF => ?_)
    refine gg_topi hF (fun y8 ey8 hF => ?_)
    refine gg_istore (pc := 35) (lv' := [(0, .ref a_t), (1, .int x1), (2, .long x2), (4, .int y5), (5, .int y8)]) K [1, 2, 3, 4, 0] dX1_lead_35 (by decide) rfl ?_
    refine gg_aload_n (pc := 37) K 0 dX1_lead_37 rfl rfl ?_
    refine gg_get (pc := 38) K 0 4 i_X1 rfl rfl (by decide) q_1_77 rfl dX1_lead_38 ?_
    refine gg_iload_n (pc := 41) K 1 dX1_lead_41 rfl rfl ?_
    refine gg_iald (pc := 42) K 4 rfl dX1_lead_42 hF (fun hF => ?_)
    refine gg_iconst (v := (1 : Int32)) (pc := 43) K dX1_lead_43 (by decide) ?_
    refine gg_icmp_ne (pc := 44) K 61 dX1_lead_44 rfl hF (fun c9 hF => ?_) (fun c9 hF => ?_)
    · refine gg_aload_n (pc := 61) K 0 dX1_lead_61 rfl rfl ?_
      refine gg_iload_n (pc := 62) K 1 dX1_lead_62 rfl rfl ?_
      refine gg_lload_n (pc := 63) K 2 dX1_lead_63 rfl rfl ?_
      obtain ⟨y10, hc11, hF⟩ := bn1_some hF
      refine gg_dS (pc := 64) (st' := [.long y10, .int x1, .ref a_t]) (rest := [.int x1, .ref a_t]) (w' := (W_X1_lead (bu_E B) a_t a_t_how a_t_into a_t_kind a_t_setKind a_t_setYes a_t_setNo a_t_fitting v_t_count y1 v_t_fitting v_t_how v_t_into v_t_kind)) K (c_X9_turned (bu_l B) (bu_E B) x2 hc11) ⟨rfl, rfl⟩ q_3_29 q_3_30 q_1_13 q_3_31 n_X9_turned ⟨(Nat.le_of_ble_eq_true rfl), (Nat.le_of_ble_eq_true rfl)⟩ [] [false, false, false, false, false] rfl rfl rfl rfl rfl rfl (by decide) rfl rfl rfl ⟨Nat.zero_le _, Nat.zero_le _⟩ (Nat.le_of_ble_eq_true rfl) dX1_lead_64 ?_
      refine gg_iload (pc := 67) K 4 dX1_lead_67 rfl ?_
      refine gg_iload (pc := 69) K 3 dX1_lead_69 rfl ?_
      obtain ⟨y13, o12, hc14, hF⟩ := bn2_some hF
      refine gg_dV (pc := 71) (st' := [.long y13]) (rest := []) (w' := (W_X1_lead (bu_E B) a_t a_t_how a_t_into a_t_kind a_t_setKind a_t_setYes a_t_setNo a_t_fitting v_t_count o12 v_t_fitting v_t_how v_t_into v_t_kind)) K (c_X1_sweep (bu_l B) (bu_E B) a_t a_t_how a_t_into a_t_kind a_t_setKind a_t_setYes a_t_setNo a_t_fitting x1 y10 y8 y5 v_t_count y1 v_t_fitting v_t_how v_t_into v_t_kind hc14) ⟨rfl, rfl⟩ q_3_8 q_3_10 qs_2 q_1_5 q_3_11 n_X1_sweep ⟨(Nat.le_of_ble_eq_true rfl), (Nat.le_of_ble_eq_true rfl)⟩ (ci := 1) rfl 0 rfl [0, 1, 2, 3, 4] [true, true, true, true, true] rfl rfl rfl rfl rfl rfl (by decide) rfl rfl rfl ⟨Nat.zero_le _, Nat.zero_le _⟩ (Nat.le_of_ble_eq_true rfl) dX1_lead_71 ?_
      cases hF
      exact (hQ _ _ _ rfl).2.2 _ rfl rfl dX1_lead_74
    · refine gg_aload_n (pc := 47) K 0 dX1_lead_47 rfl rfl ?_
      refine gg_iload_n (pc := 48) K 1 dX1_lead_48 rfl rfl ?_
      refine gg_lload_n (pc := 49) K 2 dX1_lead_49 rfl rfl ?_
      refine gg_iload (pc := 50) K 3 dX1_lead_50 rfl ?_
      refine gg_iload (pc := 52) K 4 dX1_lead_52 rfl ?_
      obtain ⟨y16, o15, hc17, hF⟩ := bn2_some hF
      refine gg_dV (pc := 54) (st' := [.long y16]) (rest := []) (w' := (W_X1_lead (bu_E B) a_t a_t_how a_t_into a_t_kind a_t_setKind a_t_setYes a_t_setNo a_t_fitting v_t_count o15 v_t_fitting v_t_how v_t_into v_t_kind)) K (c_X1_sweep (bu_l B) (bu_E B) a_t a_t_how a_t_into a_t_kind a_t_setKind a_t_setYes a_t_setNo a_t_fitting x1 x2 y5 y8 v_t_count y1 v_t_fitting v_t_how v_t_into v_t_kind hc17) ⟨rfl, rfl⟩ q_3_8 q_3_10 qs_2 q_1_5 q_3_11 n_X1_sweep ⟨(Nat.le_of_ble_eq_true rfl), (Nat.le_of_ble_eq_true rfl)⟩ (ci := 1) rfl 0 rfl [0, 1, 2, 3, 4] [true, true, true, true, true] rfl rfl rfl rfl rfl rfl (by decide) rfl rfl rfl ⟨Nat.zero_le _, Nat.zero_le _⟩ (Nat.le_of_ble_eq_true rfl) dX1_lead_54 ?_
      obtain ⟨y18, hc19, hF⟩ := bn1_some hF
      refine gg_dS (pc := 57) (st' := [.long y18]) (rest := []) (w' := (W_X1_lead (bu_E B) a_t a_t_how a_t_into a_t_kind a_t_setKind a_t_setYes a_t_setNo a_t_fitting v_t_count o15 v_t_fitting v_t_how v_t_into v_t_kind)) K (c_X9_turned (bu_l B) (bu_E B) y16 hc19) ⟨rfl, rfl⟩ q_3_29 q_3_30 q_1_13 q_3_31 n_X9_turned ⟨(Nat.le_of_ble_eq_true rfl), (Nat.le_of_ble_eq_true rfl)⟩ [] [false, false, false, false, false] rfl rfl rfl rfl rfl rfl (by decide) rfl rfl rfl ⟨Nat.zero_le _, Nat.zero_le _⟩ (Nat.le_of_ble_eq_true rfl) dX1_lead_57 ?_
      cases hF
      exact (hQ _ _ _ rfl).2.2 _ rfl rfl dX1_lead_60
  · refine gg_lconst (v := (0 : Int64)) (pc := 11) K dX1_lead_11 (by decide) ?_
    cases hF
    exact (hQ _ _ _ rfl).2.2 _ rfl rfl dX1_lead_12
def F_X1_lead (x1 : Int32) (x2 : Int64) (v_t_touched : Int32) (v_t_fitting : (Nat → Int32)) (v_t_how : (Nat → Int32)) (v_t_into : (Nat → Int32)) (v_t_kind : (Nat → Int32)) : Option (Int64 × Int32) := F_X1_lead_0 x1 x2 v_t_touched v_t_fitting v_t_how v_t_into v_t_kind
theorem n_X1_lead : yX1_lead.cls = "SoundDesk$Laws" ∧ yX1_lead.cls ≠ "java/lang/invoke/MethodHandle" ∧ yX1_lead.cls ≠ "java/lang/invoke/VarHandle" ∧ (parseMethodDescriptor yX1_lead.desc).map (fun d => d.parameters.length) = some 2 := by decide +kernel
theorem c_X1_lead (l : Launch) (E : en_T) (a_t a_t_how a_t_into a_t_kind a_t_setKind a_t_setYes a_t_setNo a_t_fitting : Nat) (x1 : Int32) (x2 : Int64) (v_t_count : Int32) (v_t_touched : Int32) (v_t_fitting : (Nat → Int32)) (v_t_how : (Nat → Int32)) (v_t_into : (Nat → Int32)) (v_t_kind : (Nat → Int32)) {r : Int64} {o_t_touched : Int32} (hF : F_X1_lead x1 x2 v_t_touched v_t_fitting v_t_how v_t_into v_t_kind = some (r, o_t_touched)) : ct l yX1_lead cX1_lead 6 (some .long) rm_X1_lead E [.ref a_t, .int x1, .long x2] (W_X1_lead E a_t a_t_how a_t_into a_t_kind a_t_setKind a_t_setYes a_t_setNo a_t_fitting v_t_count v_t_touched v_t_fitting v_t_how v_t_into v_t_kind) (some (.long r)) (fun x => x = (W_X1_lead E a_t a_t_how a_t_into a_t_kind a_t_setKind a_t_setYes a_t_setNo a_t_fitting v_t_count o_t_touched v_t_fitting v_t_how v_t_into v_t_kind)) := by
  refine ct_of (by decide +kernel) (Nat.le_of_ble_eq_true rfl) (fun B hl hE _ K hQ => ?_)
  subst hl; subst hE
  refine gg_sub (lv' := [(0, .ref a_t), (1, .int x1), (2, .long x2)]) [0, 1, 2] rfl ?_
  exact w_X1_lead_0 K hQ hF
theorem dX1_isKind_0 : decode cX1_isKind 0 = .ok (.iload_n 0, 1) := by decide +kernel
theorem dX1_isKind_1 : decode cX1_isKind 1 = .ok (.ifCond .lt 12, 3) := by decide +kernel
theorem dX1_isKind_4 : decode cX1_isKind 4 = .ok (.iload_n 0, 1) := by decide +kernel
theorem dX1_isKind_5 : decode cX1_isKind 5 = .ok (.iconst 3, 1) := by decide +kernel
theorem dX1_isKind_6 : decode cX1_isKind 6 = .ok (.if_icmp .gt 7, 3) := by decide +kernel
theorem dX1_isKind_9 : decode cX1_isKind 9 = .ok (.iconst 1, 1) := by decide +kernel
theorem dX1_isKind_10 : decode cX1_isKind 10 = .ok (.goto 4, 3) := by decide +kernel
theorem dX1_isKind_13 : decode cX1_isKind 13 = .ok (.iconst 0, 1) := by decide +kernel
theorem dX1_isKind_14 : decode cX1_isKind 14 = .ok (.ireturn, 1) := by decide +kernel
def rm_X1_isKind : Room := { frames := 0, cells := 0, slots := 0, locals := 0 }
def F_X1_isKind_0  (x0 : Int32) : Option (Int32) := if x0 < (0 : Int32) then (some ((0 : Int32))) else (if (3 : Int32) < x0 then (some ((0 : Int32))) else (some ((1 : Int32))))
set_option maxHeartbeats 4000000 in
theorem w_X1_isKind_0 {B : bu_T} {r : Int32}  (K : cx B cX1_isKind "SoundDesk$Laws" rm_X1_isKind 1) (hQ : rt B cX1_isKind 1 (some .boolean) rm_X1_isKind (some (.int r)) (fun x => x = [])) {x0 : Int32} (hF : F_X1_isKind_0  x0 = some (r)) : gg B 1 0 0 0 [(0, .int x0)] [] [] := by
  unfold F_X1_isKind_0 at hF
  refine gg_iload_n (pc := 0) K 0 dX1_isKind_0 rfl rfl ?_
  refine gg_if_lt (pc := 1) K 13 dX1_isKind_1 rfl hF (fun c1 hF => ?_) (fun c1 hF => ?_)
  · refine gg_iconst (v := (0 : Int32)) (pc := 13) K dX1_isKind_13 (by decide) ?_
    cases hF
    exact (hQ _ _ _ rfl).2.1 _ _ rfl rfl rfl dX1_isKind_14
  · refine gg_iload_n (pc := 4) K 0 dX1_isKind_4 rfl rfl ?_
    refine gg_iconst (v := (3 : Int32)) (pc := 5) K dX1_isKind_5 (by decide) ?_
    refine gg_icmp_gt (pc := 6) K 13 dX1_isKind_6 rfl hF (fun c2 hF => ?_) (fun c2 hF => ?_)
    · refine gg_iconst (v := (0 : Int32)) (pc := 13) K dX1_isKind_13 (by decide) ?_
      cases hF
      exact (hQ _ _ _ rfl).2.1 _ _ rfl rfl rfl dX1_isKind_14
    · refine gg_iconst (v := (1 : Int32)) (pc := 9) K dX1_isKind_9 (by decide) ?_
      refine gg_goto (pc := 10) K 14 dX1_isKind_10 rfl ?_
      cases hF
      exact (hQ _ _ _ rfl).2.1 _ _ rfl rfl rfl dX1_isKind_14
def F_X1_isKind (x0 : Int32)  : Option (Int32) := F_X1_isKind_0 x0
theorem n_X1_isKind : yX1_isKind.cls ≠ "java/lang/invoke/MethodHandle" ∧ yX1_isKind.cls ≠ "java/lang/invoke/VarHandle" ∧ (parseMethodDescriptor yX1_isKind.desc).map (fun d => d.parameters.length) = some 1 := by decide +kernel
theorem c_X1_isKind (l : Launch) (E : en_T) (x0 : Int32)  {r : Int32}  (hF : F_X1_isKind x0  = some (r)) : ct l yX1_isKind cX1_isKind 1 (some .boolean) rm_X1_isKind E [.int x0] [] (some (.int r)) (fun x => x = []) := by
  refine ct_of (by decide +kernel) (Nat.le_of_ble_eq_true rfl) (fun B hl hE _ K hQ => ?_)
  subst hl; subst hE
  refine gg_sub (lv' := [(0, .int x0)]) [0] rfl ?_
  exact w_X1_isKind_0 K hQ hF
theorem dX1_isHow_0 : decode cX1_isHow 0 = .ok (.iload_n 0, 1) := by decide +kernel
theorem dX1_isHow_1 : decode cX1_isHow 1 = .ok (.ifCond .lt 12, 3) := by decide +kernel
theorem dX1_isHow_4 : decode cX1_isHow 4 = .ok (.iload_n 0, 1) := by decide +kernel
theorem dX1_isHow_5 : decode cX1_isHow 5 = .ok (.iconst 2, 1) := by decide +kernel
theorem dX1_isHow_6 : decode cX1_isHow 6 = .ok (.if_icmp .gt 7, 3) := by decide +kernel
theorem dX1_isHow_9 : decode cX1_isHow 9 = .ok (.iconst 1, 1) := by decide +kernel
theorem dX1_isHow_10 : decode cX1_isHow 10 = .ok (.goto 4, 3) := by decide +kernel
theorem dX1_isHow_13 : decode cX1_isHow 13 = .ok (.iconst 0, 1) := by decide +kernel
theorem dX1_isHow_14 : decode cX1_isHow 14 = .ok (.ireturn, 1) := by decide +kernel
def rm_X1_isHow : Room := { frames := 0, cells := 0, slots := 0, locals := 0 }
def F_X1_isHow_0  (x0 : Int32) : Option (Int32) := if x0 < (0 : Int32) then (some ((0 : Int32))) else (if (2 : Int32) < x0 then (some ((0 : Int32))) else (some ((1 : Int32))))
set_option maxHeartbeats 4000000 in
theorem w_X1_isHow_0 {B : bu_T} {r : Int32}  (K : cx B cX1_isHow "SoundDesk$Laws" rm_X1_isHow 1) (hQ : rt B cX1_isHow 1 (some .boolean) rm_X1_isHow (some (.int r)) (fun x => x = [])) {x0 : Int32} (hF : F_X1_isHow_0  x0 = some (r)) : gg B 1 0 0 0 [(0, .int x0)] [] [] := by
  unfold F_X1_isHow_0 at hF
  refine gg_iload_n (pc := 0) K 0 dX1_isHow_0 rfl rfl ?_
  refine gg_if_lt (pc := 1) K 13 dX1_isHow_1 rfl hF (fun c1 hF => ?_) (fun c1 hF => ?_)
  · refine gg_iconst (v := (0 : Int32)) (pc := 13) K dX1_isHow_13 (by decide) ?_
    cases hF
    exact (hQ _ _ _ rfl).2.1 _ _ rfl rfl rfl dX1_isHow_14
  · refine gg_iload_n (pc := 4) K 0 dX1_isHow_4 rfl rfl ?_
    refine gg_iconst (v := (2 : Int32)) (pc := 5) K dX1_isHow_5 (by decide) ?_
    refine gg_icmp_gt (pc := 6) K 13 dX1_isHow_6 rfl hF (fun c2 hF => ?_) (fun c2 hF => ?_)
    · refine gg_iconst (v := (0 : Int32)) (pc := 13) K dX1_isHow_13 (by decide) ?_
      cases hF
      exact (hQ _ _ _ rfl).2.1 _ _ rfl rfl rfl dX1_isHow_14
    · refine gg_iconst (v := (1 : Int32)) (pc := 9) K dX1_isHow_9 (by decide) ?_
      refine gg_goto (pc := 10) K 14 dX1_isHow_10 rfl ?_
      cases hF
      exact (hQ _ _ _ rfl).2.1 _ _ rfl rfl rfl dX1_isHow_14
def F_X1_isHow (x0 : Int32)  : Option (Int32) := F_X1_isHow_0 x0
theorem n_X1_isHow : yX1_isHow.cls ≠ "java/lang/invoke/MethodHandle" ∧ yX1_isHow.cls ≠ "java/lang/invoke/VarHandle" ∧ (parseMethodDescriptor yX1_isHow.desc).map (fun d => d.parameters.length) = some 1 := by decide +kernel
theorem c_X1_isHow (l : Launch) (E : en_T) (x0 : Int32)  {r : Int32}  (hF : F_X1_isHow x0  = some (r)) : ct l yX1_isHow cX1_isHow 1 (some .boolean) rm_X1_isHow E [.int x0] [] (some (.int r)) (fun x => x = []) := by
  refine ct_of (by decide +kernel) (Nat.le_of_ble_eq_true rfl) (fun B hl hE _ K hQ => ?_)
  subst hl; subst hE
  refine gg_sub (lv' := [(0, .int x0)]) [0] rfl ?_
  exact w_X1_isHow_0 K hQ hF
theorem dX1_isSet_0 : decode cX1_isSet 0 = .ok (.iload_n 0, 1) := by decide +kernel
theorem dX1_isSet_1 : decode cX1_isSet 1 = .ok (.ifCond .lt 8, 3) := by decide +kernel
theorem dX1_isSet_4 : decode cX1_isSet 4 = .ok (.iload_n 0, 1) := by decide +kernel
theorem dX1_isSet_5 : decode cX1_isSet 5 = .ok (.iconst 2, 1) := by decide +kernel
theorem dX1_isSet_6 : decode cX1_isSet 6 = .ok (.if_icmp .le 5, 3) := by decide +kernel
theorem dX1_isSet_9 : decode cX1_isSet 9 = .ok (.iconst 0, 1) := by decide +kernel
theorem dX1_isSet_10 : decode cX1_isSet 10 = .ok (.ireturn, 1) := by decide +kernel
theorem dX1_isSet_11 : decode cX1_isSet 11 = .ok (.iload_n 1, 1) := by decide +kernel
theorem dX1_isSet_12 : decode cX1_isSet 12 = .ok (.iconst (-1), 1) := by decide +kernel
theorem dX1_isSet_13 : decode cX1_isSet 13 = .ok (.if_icmp .eq 9, 3) := by decide +kernel
theorem dX1_isSet_16 : decode cX1_isSet 16 = .ok (.iload_n 1, 1) := by decide +kernel
theorem dX1_isSet_17 : decode cX1_isSet 17 = .ok (.bipush (-2), 2) := by decide +kernel
theorem dX1_isSet_19 : decode cX1_isSet 19 = .ok (.if_icmp .ne 21, 3) := by decide +kernel
theorem dX1_isSet_22 : decode cX1_isSet 22 = .ok (.iload_n 0, 1) := by decide +kernel
theorem dX1_isSet_23 : decode cX1_isSet 23 = .ok (.ifCond .eq 15, 3) := by decide +kernel
theorem dX1_isSet_26 : decode cX1_isSet 26 = .ok (.iload_n 2, 1) := by decide +kernel
theorem dX1_isSet_27 : decode cX1_isSet 27 = .ok (.ifCond .ne 11, 3) := by decide +kernel
theorem dX1_isSet_30 : decode cX1_isSet 30 = .ok (.iload_n 3, 1) := by decide +kernel
theorem dX1_isSet_31 : decode cX1_isSet 31 = .ok (.ifCond .ne 7, 3) := by decide +kernel
theorem dX1_isSet_34 : decode cX1_isSet 34 = .ok (.iconst 1, 1) := by decide +kernel
theorem dX1_isSet_35 : decode cX1_isSet 35 = .ok (.goto 4, 3) := by decide +kernel
theorem dX1_isSet_38 : decode cX1_isSet 38 = .ok (.iconst 0, 1) := by decide +kernel
theorem dX1_isSet_39 : decode cX1_isSet 39 = .ok (.ireturn, 1) := by decide +kernel
theorem dX1_isSet_40 : decode cX1_isSet 40 = .ok (.iload_n 1, 1) := by decide +kernel
theorem dX1_isSet_41 : decode cX1_isSet 41 = .ok (.invokestatic 40, 3) := by decide +kernel
theorem dX1_isSet_44 : decode cX1_isSet 44 = .ok (.ifCond .eq 21, 3) := by decide +kernel
theorem dX1_isSet_47 : decode cX1_isSet 47 = .ok (.iload_n 2, 1) := by decide +kernel
theorem dX1_isSet_48 : decode cX1_isSet 48 = .ok (.invokestatic 46, 3) := by decide +kernel
theorem dX1_isSet_51 : decode cX1_isSet 51 = .ok (.ifCond .eq 14, 3) := by decide +kernel
theorem dX1_isSet_54 : decode cX1_isSet 54 = .ok (.iload_n 3, 1) := by decide +kernel
theorem dX1_isSet_55 : decode cX1_isSet 55 = .ok (.invokestatic 46, 3) := by decide +kernel
theorem dX1_isSet_58 : decode cX1_isSet 58 = .ok (.ifCond .eq 7, 3) := by decide +kernel
theorem dX1_isSet_61 : decode cX1_isSet 61 = .ok (.iconst 1, 1) := by decide +kernel
theorem dX1_isSet_62 : decode cX1_isSet 62 = .ok (.goto 4, 3) := by decide +kernel
theorem dX1_isSet_65 : decode cX1_isSet 65 = .ok (.iconst 0, 1) := by decide +kernel
theorem dX1_isSet_66 : decode cX1_isSet 66 = .ok (.ireturn, 1) := by decide +kernel
def rm_X1_isSet : Room := { frames := 1, cells := 0, slots := 0, locals := 20 }
def F_X1_isSet_22  (x0 : Int32) (x2 : Int32) (x3 : Int32) : Option (Int32) := if x0 = (0 : Int32) then (some ((0 : Int32))) else (if x2 = (0 : Int32) then (if x3 = (0 : Int32) then (some ((1 : Int32))) else (some ((0 : Int32)))) else (some ((0 : Int32))))
set_option maxHeartbeats 4000000 in
theorem w_X1_isSet_22 {B : bu_T} {r : Int32}  (K : cx B cX1_isSet "SoundDesk$Laws" rm_X1_isSet 4) (hQ : rt B cX1_isSet 4 (some .boolean) rm_X1_isSet (some (.int r)) (fun x => x = [])) {x0 : Int32} {x2 : Int32} {x3 : Int32} (hF : F_X1_isSet_22  x0 x2 x3 = some (r)) : gg B 4 0 0 22 [(0, .int x0), (2, .int x2), (3, .int x3)] [] [] := by
  unfold F_X1_isSet_22 at hF
  refine gg_iload_n (pc := 22) K 0 dX1_isSet_22 rfl rfl ?_
  refine gg_if_eq (pc := 23) K 38 dX1_isSet_23 rfl hF (fun c1 hF => ?_) (fun c1 hF => ?_)
  · refine gg_iconst (v := (0 : Int32)) (pc := 38) K dX1_isSet_38 (by decide) ?_
    cases hF
    exact (hQ _ _ _ rfl).2.1 _ _ rfl rfl rfl dX1_isSet_39
  · refine gg_iload_n (pc := 26) K 1 dX1_isSet_26 rfl rfl ?_
    refine gg_if_ne (pc := 27) K 38 dX1_isSet_27 rfl hF (fun c2 hF => ?_) (fun c2 hF => ?_)
    · refine gg_iconst (v := (0 : Int32)) (pc := 38) K dX1_isSet_38 (by decide) ?_
      cases hF
      exact (hQ _ _ _ rfl).2.1 _ _ rfl rfl rfl dX1_isSet_39
    · refine gg_iload_n (pc := 30) K 2 dX1_isSet_30 rfl rfl ?_
      refine gg_if_ne (pc := 31) K 38 dX1_isSet_31 rfl hF (fun c3 hF => ?_) (fun c3 hF => ?_)
      · refine gg_iconst (v := (0 : Int32)) (pc := 38) K dX1_isSet_38 (by decide) ?_
        cases hF
        exact (hQ _ _ _ rfl).2.1 _ _ rfl rfl rfl dX1_isSet_39
      · refine gg_iconst (v := (1 : Int32)) (pc := 34) K dX1_isSet_34 (by decide) ?_
        refine gg_goto (pc := 35) K 39 dX1_isSet_35 rfl ?_
        cases hF
        exact (hQ _ _ _ rfl).2.1 _ _ rfl rfl rfl dX1_isSet_39
def F_X1_isSet_0  (x0 : Int32) (x1 : Int32) (x2 : Int32) (x3 : Int32) : Option (Int32) := if x0 < (0 : Int32) then (some ((0 : Int32))) else (if x0 ≤ (2 : Int32) then (if x1 = (-1 : Int32) then (F_X1_isSet_22  x0 x2 x3) else (if x1 = (-2 : Int32) then (F_X1_isSet_22  x0 x2 x3) else (bn1_ (F_X5_isKind x1) (fun y8 => if y8 = (0 : Int32) then (some ((0 : Int32))) else (bn1_ (F_X5_isMarks x2) (fun y11 => if y11 = (0 : Int32) then (some ((0 : Int32))) else (bn1_ (F_X5_isMarks x3) (fun y14 => if y14 = (0 : Int32) then (some ((0 : Int32))) else (some ((1 : Int32))))))))))) else (some ((0 : Int32))))
set_option maxHeartbeats 4000000 in
theorem w_X1_isSet_0 {B : bu_T} {r : Int32}  (K : cx B cX1_isSet "SoundDesk$Laws" rm_X1_isSet 4) (hQ : rt B cX1_isSet 4 (some .boolean) rm_X1_isSet (some (.int r)) (fun x => x = [])) {x0 : Int32} {x1 : Int32} {x2 : Int32} {x3 : Int32} (hF : F_X1_isSet_0  x0 x1 x2 x3 = some (r)) : gg B 4 0 0 0 [(0, .int x0), (1, .int x1), (2, .int x2), (3, .int x3)] [] [] := by
  unfold F_X1_isSet_0 at hF
  refine gg_iload_n (pc := 0) K 0 dX1_isSet_0 rfl rfl ?_
  refine gg_if_lt (pc := 1) K 9 dX1_isSet_1 rfl hF (fun c4 hF => ?_) (fun c4 hF => ?_)
  · refine gg_iconst (v := (0 : Int32)) (pc := 9) K dX1_isSet_9 (by decide) ?_
    cases hF
    exact (hQ _ _ _ rfl).2.1 _ _ rfl rfl rfl dX1_isSet_10
  · refine gg_iload_n (pc := 4) K 0 dX1_isSet_4 rfl rfl ?_
    refine gg_iconst (v := (2 : Int32)) (pc := 5) K dX1_isSet_5 (by decide) ?_
    refine gg_icmp_le (pc := 6) K 11 dX1_isSet_6 rfl hF (fun c5 hF => ?_) (fun c5 hF => ?_)
    · refine gg_iload_n (pc := 11) K 1 dX1_isSet_11 rfl rfl ?_
      refine gg_iconst (v := (-1 : Int32)) (pc := 12) K dX1_isSet_12 (by decide) ?_
      refine gg_icmp_eq (pc := 13) K 22 dX1_isSet_13 rfl hF (fun c6 hF => ?_) (fun c6 hF => ?_)
      · refine gg_sub [0, 2, 3] rfl ?_
        exact w_X1_isSet_22 K hQ  hF
      · refine gg_iload_n (pc := 16) K 1 dX1_isSet_16 rfl rfl ?_
        refine gg_bipush (v := (-2 : Int32)) (pc := 17) K dX1_isSet_17 (by decide) ?_
        refine gg_icmp_ne (pc := 19) K 40 dX1_isSet_19 rfl hF (fun c7 hF => ?_) (fun c7 hF => ?_)
        · refine gg_iload_n (pc := 40) K 1 dX1_isSet_40 rfl rfl ?_
          obtain ⟨y8, hc9, hF⟩ := bn1_some hF
          refine gg_dS (pc := 41) (st' := [.int y8]) (rest := []) (w' := []) K (c_X5_isKind (bu_l B) (bu_E B) x1 hc9) ⟨rfl, rfl⟩ q_2_148 q_2_66 q_1_4 q_2_67 n_X5_isKind ⟨(Nat.le_of_ble_eq_true rfl), (Nat.le_of_ble_eq_true rfl)⟩ [] [] rfl rfl rfl rfl rfl rfl (by decide) rfl rfl rfl ⟨Nat.zero_le _, Nat.zero_le _⟩ (Nat.le_of_ble_eq_true rfl) dX1_isSet_41 ?_
          refine gg_if_eq (pc := 44) K 65 dX1_isSet_44 rfl hF (fun c10 hF => ?_) (fun c10 hF => ?_)
          · refine gg_iconst (v := (0 : Int32)) (pc := 65) K dX1_isSet_65 (by decide) ?_
            cases hF
            exact (hQ _ _ _ rfl).2.1 _ _ rfl rfl rfl dX1_isSet_66
          · refine gg_iload_n (pc := 47) K 2 dX1_isSet_47 rfl rfl ?_
            obtain ⟨y11, hc12, hF⟩ := bn1_some hF
            refine gg_dS (pc := 48) (st' := [.int y11]) (rest := []) (w' := []) K (c_X5_isMarks (bu_l B) (bu_E B) x2 hc12) ⟨rfl, rfl⟩ q_2_149 q_2_72 q_1_4 q_2_73 n_X5_isMarks ⟨(Nat.le_of_ble_eq_true rfl), (Nat.le_of_ble_eq_true rfl)⟩ [] [] rfl rfl rfl rfl rfl rfl (by decide) rfl rfl rfl ⟨Nat.zero_le _, Nat.zero_le _⟩ (Nat.le_of_ble_eq_true rfl) dX1_isSet_48 ?_
            refine gg_if_eq (pc := 51) K 65 dX1_isSet_51 rfl hF (fun c13 hF => ?_) (fun c13 hF => ?_)
            · refine gg_iconst (v := (0 : Int32)) (pc := 65) K dX1_isSet_65 (by decide) ?_
              cases hF
              exact (hQ _ _ _ rfl).2.1 _ _ rfl rfl rfl dX1_isSet_66
            · refine gg_iload_n (pc := 54) K 3 dX1_isSet_54 rfl rfl ?_
              obtain ⟨y14, hc15, hF⟩ := bn1_some hF
              refine gg_dS (pc := 55) (st' := [.int y14]) (rest := []) (w' := []) K (c_X5_isMarks (bu_l B) (bu_E B) x3 hc15) ⟨rfl, rfl⟩ q_2_149 q_2_72 q_1_4 q_2_73 n_X5_isMarks ⟨(Nat.le_of_ble_eq_true rfl), (Nat.le_of_ble_eq_true rfl)⟩ [] [] rfl rfl rfl rfl rfl rfl (by decide) rfl rfl rfl ⟨Nat.zero_le _, Nat.zero_le _⟩ (Nat.le_of_ble_eq_true rfl) dX1_isSet_55 ?_
              refine gg_if_eq (pc := 58) K 65 dX1_isSet_58 rfl hF (fun c16 hF => ?_) (fun c16 hF => ?_)
              · refine gg_iconst (v := (0 : Int32)) (pc := 65) K dX1_isSet_65 (by decide) ?_
                cases hF
                exact (hQ _ _ _ rfl).2.1 _ _ rfl rfl rfl dX1_isSet_66
              · refine gg_iconst (v := (1 : Int32)) (pc := 61) K dX1_isSet_61 (by decide) ?_
                refine gg_goto (pc := 62) K 66 dX1_isSet_62 rfl ?_
                cases hF
                exact (hQ _ _ _ rfl).2.1 _ _ rfl rfl rfl dX1_isSet_66
        · refine gg_sub [0, 2, 3] rfl ?_
          exact w_X1_isSet_22 K hQ  hF
    · refine gg_iconst (v := (0 : Int32)) (pc := 9) K dX1_isSet_9 (by decide) ?_
      cases hF
      exact (hQ _ _ _ rfl).2.1 _ _ rfl rfl rfl dX1_isSet_10
def F_X1_isSet (x0 : Int32) (x1 : Int32) (x2 : Int32) (x3 : Int32)  : Option (Int32) := F_X1_isSet_0 x0 x1 x2 x3
theorem n_X1_isSet : yX1_isSet.cls ≠ "java/lang/invoke/MethodHandle" ∧ yX1_isSet.cls ≠ "java/lang/invoke/VarHandle" ∧ (parseMethodDescriptor yX1_isSet.desc).map (fun d => d.parameters.length) = some 4 := by decide +kernel
theorem c_X1_isSet (l : Launch) (E : en_T) (x0 : Int32) (x1 : Int32) (x2 : Int32) (x3 : Int32)  {r : Int32}  (hF : F_X1_isSet x0 x1 x2 x3  = some (r)) : ct l yX1_isSet cX1_isSet 4 (some .boolean) rm_X1_isSet E [.int x0, .int x1, .int x2, .int x3] [] (some (.int r)) (fun x => x = []) := by
  refine ct_of (by decide +kernel) (Nat.le_of_ble_eq_true rfl) (fun B hl hE _ K hQ => ?_)
  subst hl; subst hE
  refine gg_sub (lv' := [(0, .int x0), (1, .int x1), (2, .int x2), (3, .int x3)]) [0, 1, 2, 3] rfl ?_
  exact w_X1_isSet_0 K hQ hF
theorem dX1_copyFrom_0 : decode cX1_copyFrom 0 = .ok (.aload_n 0, 1) := by decide +kernel
theorem dX1_copyFrom_1 : decode cX1_copyFrom 1 = .ok (.aload_n 1, 1) := by decide +kernel
theorem dX1_copyFrom_2 : decode cX1_copyFrom 2 = .ok (.getfield 11, 3) := by decide +kernel
theorem dX1_copyFrom_5 : decode cX1_copyFrom 5 = .ok (.putfield 11, 3) := by decide +kernel
theorem dX1_copyFrom_8 : decode cX1_copyFrom 8 = .ok (.aload_n 1, 1) := by decide +kernel
theorem dX1_copyFrom_9 : decode cX1_copyFrom 9 = .ok (.getfield 18, 3) := by decide +kernel
theorem dX1_copyFrom_12 : decode cX1_copyFrom 12 = .ok (.iconst 0, 1) := by decide +kernel
theorem dX1_copyFrom_13 : decode cX1_copyFrom 13 = .ok (.aload_n 0, 1) := by decide +kernel
theorem dX1_copyFrom_14 : decode cX1_copyFrom 14 = .ok (.getfield 18, 3) := by decide +kernel
theorem dX1_copyFrom_17 : decode cX1_copyFrom 17 = .ok (.iconst 0, 1) := by decide +kernel
theorem dX1_copyFrom_18 : decode cX1_copyFrom 18 = .ok (.bipush 16, 2) := by decide +kernel
theorem dX1_copyFrom_20 : decode cX1_copyFrom 20 = .ok (.invokestatic 49, 3) := by decide +kernel
theorem dX1_copyFrom_23 : decode cX1_copyFrom 23 = .ok (.aload_n 1, 1) := by decide +kernel
theorem dX1_copyFrom_24 : decode cX1_copyFrom 24 = .ok (.getfield 22, 3) := by decide +kernel
theorem dX1_copyFrom_27 : decode cX1_copyFrom 27 = .ok (.iconst 0, 1) := by decide +kernel
theorem dX1_copyFrom_28 : decode cX1_copyFrom 28 = .ok (.aload_n 0, 1) := by decide +kernel
theorem dX1_copyFrom_29 : decode cX1_copyFrom 29 = .ok (.getfield 22, 3) := by decide +kernel
theorem dX1_copyFrom_32 : decode cX1_copyFrom 32 = .ok (.iconst 0, 1) := by decide +kernel
theorem dX1_copyFrom_33 : decode cX1_copyFrom 33 = .ok (.bipush 16, 2) := by decide +kernel
theorem dX1_copyFrom_35 : decode cX1_copyFrom 35 = .ok (.invokestatic 49, 3) := by decide +kernel
theorem dX1_copyFrom_38 : decode cX1_copyFrom 38 = .ok (.aload_n 1, 1) := by decide +kernel
theorem dX1_copyFrom_39 : decode cX1_copyFrom 39 = .ok (.getfield 25, 3) := by decide +kernel
theorem dX1_copyFrom_42 : decode cX1_copyFrom 42 = .ok (.iconst 0, 1) := by decide +kernel
theorem dX1_copyFrom_43 : decode cX1_copyFrom 43 = .ok (.aload_n 0, 1) := by decide +kernel
theorem dX1_copyFrom_44 : decode cX1_copyFrom 44 = .ok (.getfield 25, 3) := by decide +kernel
theorem dX1_copyFrom_47 : decode cX1_copyFrom 47 = .ok (.iconst 0, 1) := by decide +kernel
theorem dX1_copyFrom_48 : decode cX1_copyFrom 48 = .ok (.bipush 16, 2) := by decide +kernel
theorem dX1_copyFrom_50 : decode cX1_copyFrom 50 = .ok (.invokestatic 49, 3) := by decide +kernel
theorem dX1_copyFrom_53 : decode cX1_copyFrom 53 = .ok (.aload_n 1, 1) := by decide +kernel
theorem dX1_copyFrom_54 : decode cX1_copyFrom 54 = .ok (.getfield 28, 3) := by decide +kernel
theorem dX1_copyFrom_57 : decode cX1_copyFrom 57 = .ok (.iconst 0, 1) := by decide +kernel
theorem dX1_copyFrom_58 : decode cX1_copyFrom 58 = .ok (.aload_n 0, 1) := by decide +kernel
theorem dX1_copyFrom_59 : decode cX1_copyFrom 59 = .ok (.getfield 28, 3) := by decide +kernel
theorem dX1_copyFrom_62 : decode cX1_copyFrom 62 = .ok (.iconst 0, 1) := by decide +kernel
theorem dX1_copyFrom_63 : decode cX1_copyFrom 63 = .ok (.bipush 48, 2) := by decide +kernel
theorem dX1_copyFrom_65 : decode cX1_copyFrom 65 = .ok (.invokestatic 49, 3) := by decide +kernel
theorem dX1_copyFrom_68 : decode cX1_copyFrom 68 = .ok (.aload_n 1, 1) := by decide +kernel
theorem dX1_copyFrom_69 : decode cX1_copyFrom 69 = .ok (.getfield 31, 3) := by decide +kernel
theorem dX1_copyFrom_72 : decode cX1_copyFrom 72 = .ok (.iconst 0, 1) := by decide +kernel
theorem dX1_copyFrom_73 : decode cX1_copyFrom 73 = .ok (.aload_n 0, 1) := by decide +kernel
theorem dX1_copyFrom_74 : decode cX1_copyFrom 74 = .ok (.getfield 31, 3) := by decide +kernel
theorem dX1_copyFrom_77 : decode cX1_copyFrom 77 = .ok (.iconst 0, 1) := by decide +kernel
theorem dX1_copyFrom_78 : decode cX1_copyFrom 78 = .ok (.bipush 48, 2) := by decide +kernel
theorem dX1_copyFrom_80 : decode cX1_copyFrom 80 = .ok (.invokestatic 49, 3) := by decide +kernel
theorem dX1_copyFrom_83 : decode cX1_copyFrom 83 = .ok (.aload_n 1, 1) := by decide +kernel
theorem dX1_copyFrom_84 : decode cX1_copyFrom 84 = .ok (.getfield 34, 3) := by decide +kernel
theorem dX1_copyFrom_87 : decode cX1_copyFrom 87 = .ok (.iconst 0, 1) := by decide +kernel
theorem dX1_copyFrom_88 : decode cX1_copyFrom 88 = .ok (.aload_n 0, 1) := by decide +kernel
theorem dX1_copyFrom_89 : decode cX1_copyFrom 89 = .ok (.getfield 34, 3) := by decide +kernel
theorem dX1_copyFrom_92 : decode cX1_copyFrom 92 = .ok (.iconst 0, 1) := by decide +kernel
theorem dX1_copyFrom_93 : decode cX1_copyFrom 93 = .ok (.bipush 48, 2) := by decide +kernel
theorem dX1_copyFrom_95 : decode cX1_copyFrom 95 = .ok (.invokestatic 49, 3) := by decide +kernel
theorem dX1_copyFrom_98 : decode cX1_copyFrom 98 = .ok (.aload_n 1, 1) := by decide +kernel
theorem dX1_copyFrom_99 : decode cX1_copyFrom 99 = .ok (.getfield 37, 3) := by decide +kernel
theorem dX1_copyFrom_102 : decode cX1_copyFrom 102 = .ok (.iconst 0, 1) := by decide +kernel
theorem dX1_copyFrom_103 : decode cX1_copyFrom 103 = .ok (.aload_n 0, 1) := by decide +kernel
theorem dX1_copyFrom_104 : decode cX1_copyFrom 104 = .ok (.getfield 37, 3) := by decide +kernel
theorem dX1_copyFrom_107 : decode cX1_copyFrom 107 = .ok (.iconst 0, 1) := by decide +kernel
theorem dX1_copyFrom_108 : decode cX1_copyFrom 108 = .ok (.bipush 48, 2) := by decide +kernel
theorem dX1_copyFrom_110 : decode cX1_copyFrom 110 = .ok (.invokestatic 49, 3) := by decide +kernel
theorem dX1_copyFrom_113 : decode cX1_copyFrom 113 = .ok (.return_, 1) := by decide +kernel
def rm_X1_copyFrom : Room := { frames := 1, cells := 0, slots := 0, locals := 60 }
def W_X1_copyFrom (E : en_T) (a_p1 a_p1_how a_p1_into a_p1_kind a_p1_setKind a_p1_setYes a_p1_setNo a_p1_fitting a_t a_t_how a_t_into a_t_kind a_t_setKind a_t_setYes a_t_setNo a_t_fitting : Nat) (v_p1_count : Int32) (v_p1_touched : Int32) (v_p1_fitting : (Nat → Int32)) (v_p1_how : (Nat → Int32)) (v_p1_into : (Nat → Int32)) (v_p1_kind : (Nat → Int32)) (v_p1_setKind : (Nat → Int32)) (v_p1_setNo : (Nat → Int32)) (v_p1_setYes : (Nat → Int32)) (v_t_count : Int32) (v_t_touched : Int32) (v_t_fitting : (Nat → Int32)) (v_t_how : (Nat → Int32)) (v_t_into : (Nat → Int32)) (v_t_kind : (Nat → Int32)) (v_t_setKind : (Nat → Int32)) (v_t_setNo : (Nat → Int32)) (v_t_setYes : (Nat → Int32)) : va_W := [(a_p1, .inr (1, [.int v_p1_count, .int v_p1_touched, .ref a_p1_how, .ref a_p1_into, .ref a_p1_kind, .ref a_p1_setKind, .ref a_p1_setYes, .ref a_p1_setNo, .ref a_p1_fitting])), (a_p1_fitting, .inl (en_I E, 48, .inl v_p1_fitting)), (a_p1_how, .inl (en_I E, 16, .inl v_p1_how)), (a_p1_into, .inl (en_I E, 16, .inl v_p1_into)), (a_p1_kind, .inl (en_I E, 16, .inl v_p1_kind)), (a_p1_setKind, .inl (en_I E, 48, .inl v_p1_setKind)), (a_p1_setNo, .inl (en_I E, 48, .inl v_p1_setNo)), (a_p1_setYes, .inl (en_I E, 48, .inl v_p1_setYes)), (a_t, .inr (1, [.int v_t_count, .int v_t_touched, .ref a_t_how, .ref a_t_into, .ref a_t_kind, .ref a_t_setKind, .ref a_t_setYes, .ref a_t_setNo, .ref a_t_fitting])), (a_t_fitting, .inl (en_I E, 48, .inl v_t_fitting)), (a_t_how, .inl (en_I E, 16, .inl v_t_how)), (a_t_into, .inl (en_I E, 16, .inl v_t_into)), (a_t_kind, .inl (en_I E, 16, .inl v_t_kind)), (a_t_setKind, .inl (en_I E, 48, .inl v_t_setKind)), (a_t_setNo, .inl (en_I E, 48, .inl v_t_setNo)), (a_t_setYes, .inl (en_I E, 48, .inl v_t_setYes))]
def F_X1_copyFrom_0  (v_p1_count : Int32) (v_p1_fitting : (Nat → Int32)) (v_p1_how : (Nat → Int32)) (v_p1_into : (Nat → Int32)) (v_p1_kind : (Nat → Int32)) (v_p1_setKind : (Nat → Int32)) (v_p1_setNo : (Nat → Int32)) (v_p1_setYes : (Nat → Int32)) (v_t_count : Int32) (v_t_fitting : (Nat → Int32)) (v_t_how : (Nat → Int32)) (v_t_into : (Nat → Int32)) (v_t_kind : (Nat → Int32)) (v_t_setKind : (Nat → Int32)) (v_t_setNo : (Nat → Int32)) (v_t_setYes : (Nat → Int32)) : Option (Int32 × (Nat → Int32) × (Nat → Int32) × (Nat → Int32) × (Nat → Int32) × (Nat → Int32) × (Nat → Int32) × (Nat → Int32)) := lt_ v_p1_count (fun y1 => cp_ (0 : Int32) (0 : Int32) (16 : Int32) 16 16 (lt_ (va_cpy v_p1_how v_t_how (Int32.toNatClampNeg (0 : Int32)) (Int32.toNatClampNeg (0 : Int32)) (Int32.toNatClampNeg (16 : Int32))) (fun f2 => cp_ (0 : Int32) (0 : Int32) (16 : Int32) 16 16 (lt_ (va_cpy v_p1_into v_t_into (Int32.toNatClampNeg (0 : Int32)) (Int32.toNatClampNeg (0 : Int32)) (Int32.toNatClampNeg (16 : Int32))) (fun f3 => cp_ (0 : Int32) (0 : Int32) (16 : Int32) 16 16 (lt_ (va_cpy v_p1_kind v_t_kind (Int32.toNatClampNeg (0 : Int32)) (Int32.toNatClampNeg (0 : Int32)) (Int32.toNatClampNeg (16 : Int32))) (fun f4 => cp_ (0 : Int32) (0 : Int32) (48 : Int32) 48 48 (lt_ (va_cpy v_p1_setKind v_t_setKind (Int32.toNatClampNeg (0 : Int32)) (Int32.toNatClampNeg (0 : Int32)) (Int32.toNatClampNeg (48 : Int32))) (fun f5 => cp_ (0 : Int32) (0 : Int32) (48 : Int32) 48 48 (lt_ (va_cpy v_p1_setYes v_t_setYes (Int32.toNatClampNeg (0 : Int32)) (Int32.toNatClampNeg (0 : Int32)) (Int32.toNatClampNeg (48 : Int32))) (fun f6 => cp_ (0 : Int32) (0 : Int32) (48 : Int32) 48 48 (lt_ (va_cpy v_p1_setNo v_t_setNo (Int32.toNatClampNeg (0 : Int32)) (Int32.toNatClampNeg (0 : Int32)) (Int32.toNatClampNeg (48 : Int32))) (fun f7 => cp_ (0 : Int32) (0 : Int32) (48 : Int32) 48 48 (lt_ (va_cpy v_p1_fitting v_t_fitting (Int32.toNatClampNeg (0 : Int32)) (Int32.toNatClampNeg (0 : Int32)) (Int32.toNatClampNeg (48 : Int32))) (fun f8 => some (y1, f8, f2, f3, f4, f5, f7, f6))))))))))))))))
set_option maxHeartbeats 4000000 in
theorem w_X1_copyFrom_0 {B : bu_T} {a_p1 a_p1_how a_p1_into a_p1_kind a_p1_setKind a_p1_setYes a_p1_setNo a_p1_fitting a_t a_t_how a_t_into a_t_kind a_t_setKind a_t_setYes a_t_setNo a_t_fitting : Nat} {v_p1_count : Int32} {v_p1_touched : Int32} {v_p1_fitting : (Nat → Int32)} {v_p1_how : (Nat → Int32)} {v_p1_into : (Nat → Int32)} {v_p1_kind : (Nat → Int32)} {v_p1_setKind : (Nat → Int32)} {v_p1_setNo : (Nat → Int32)} {v_p1_setYes : (Nat → Int32)} {v_t_count : Int32} {v_t_touched : Int32} {v_t_fitting : (Nat → Int32)} {v_t_how : (Nat → Int32)} {v_t_into : (Nat → Int32)} {v_t_kind : (Nat → Int32)} {v_t_setKind : (Nat → Int32)} {v_t_setNo : (Nat → Int32)} {v_t_setYes : (Nat → Int32)} {o_t_count : Int32} {o_t_fitting : (Nat → Int32)} {o_t_how : (Nat → Int32)} {o_t_into : (Nat → Int32)} {o_t_kind : (Nat → Int32)} {o_t_setKind : (Nat → Int32)} {o_t_setNo : (Nat → Int32)} {o_t_setYes : (Nat → Int32)} (K : cx B cX1_copyFrom "SoundDesk$Laws" rm_X1_copyFrom 2) (hQ : rt B cX1_copyFrom 2 none rm_X1_copyFrom none (fun x => x = (W_X1_copyFrom (bu_E B) a_p1 a_p1_how a_p1_into a_p1_kind a_p1_setKind a_p1_setYes a_p1_setNo a_p1_fitting a_t a_t_how a_t_into a_t_kind a_t_setKind a_t_setYes a_t_setNo a_t_fitting v_p1_count v_p1_touched v_p1_fitting v_p1_how v_p1_into v_p1_kind v_p1_setKind v_p1_setNo v_p1_setYes o_t_count v_t_touched o_t_fitting o_t_how o_t_into o_t_kind o_t_setKind o_t_setNo o_t_setYes)))  (hF : F_X1_copyFrom_0  v_p1_count v_p1_fitting v_p1_how v_p1_into v_p1_kind v_p1_setKind v_p1_setNo v_p1_setYes v_t_count v_t_fitting v_t_how v_t_into v_t_kind v_t_setKind v_t_setNo v_t_setYes = some (o_t_count, o_t_fitting, o_t_how, o_t_into, o_t_kind, o_t_setKind, o_t_setNo, o_t_setYes)) : gg B 2 0 0 0 [(0, .ref a_t), (1, .ref a_p1)] [] (W_X1_copyFrom (bu_E B) a_p1 a_p1_how a_p1_into a_p1_kind a_p1_setKind a_p1_setYes a_p1_setNo a_p1_fitting a_t a_t_how a_t_into a_t_kind a_t_setKind a_t_setYes a_t_setNo a_t_fitting v_p1_count v_p1_touched v_p1_fitting v_p1_how v_p1_into v_p1_kind v_p1_setKind v_p1_setNo v_p1_setYes v_t_count v_t_touched v_t_fitting v_t_how v_t_into v_t_kind v_t_setKind v_t_setNo v_t_setYes) := by
  unfold F_X1_copyFrom_0 at hF
  refine gg_aload_n (pc := 0) K 0 dX1_copyFrom_0 rfl rfl ?_
  refine gg_aload_n (pc := 1) K 1 dX1_copyFrom_1 rfl rfl ?_
  refine gg_get (pc := 2) K 0 0 i_X1 rfl rfl (by decide) q_1_69 rfl dX1_copyFrom_2 ?_
  refine gg_puti (pc := 5) (wf := fun zz => (W_X1_copyFrom (bu_E B) a_p1 a_p1_how a_p1_into a_p1_kind a_p1_setKind a_p1_setYes a_p1_setNo a_p1_fitting a_t a_t_how a_t_into a_t_kind a_t_setKind a_t_setYes a_t_setNo a_t_fitting v_p1_count v_p1_touched v_p1_fitting v_p1_how v_p1_into v_p1_kind v_p1_setKind v_p1_setNo v_p1_setYes zz v_t_touched v_t_fitting v_t_how v_t_into v_t_kind v_t_setKind v_t_setNo v_t_setYes)) K 8 0 i_X1 tyX1_ok nmX1 rfl rfl (by decide) q_1_69 rfl (by decide +kernel) (Nat.le_of_ble_eq_true rfl) dX1_copyFrom_5 hF (fun _ => rfl) (fun y1 ey1 hF => ?_)
  refine gg_aload_n (pc := 8) K 1 dX1_copyFrom_8 rfl rfl ?_
  refine gg_get (pc := 9) K 0 2 i_X1 rfl rfl (by decide) q_1_73 rfl dX1_copyFrom_9 ?_
  refine gg_iconst (v := (0 : Int32)) (pc := 12) K dX1_copyFrom_12 (by decide) ?_
  refine gg_aload_n (pc := 13) K 0 dX1_copyFrom_13 rfl rfl ?_
  refine gg_get (pc := 14) K 8 2 i_X1 rfl rfl (by decide) q_1_73 rfl dX1_copyFrom_14 ?_
  refine gg_iconst (v := (0 : Int32)) (pc := 17) K dX1_copyFrom_17 (by decide) ?_
  refine gg_bipush (v := (16 : Int32)) (pc := 18) K dX1_copyFrom_18 (by decide) ?_
  refine gg_cpyi (pc := 20) (wf := fun zz => (W_X1_copyFrom (bu_E B) a_p1 a_p1_how a_p1_into a_p1_kind a_p1_setKind a_p1_setYes a_p1_setNo a_p1_fitting a_t a_t_how a_t_into a_t_kind a_t_setKind a_t_setYes a_t_setNo a_t_fitting v_p1_count v_p1_touched v_p1_fitting v_p1_how v_p1_into v_p1_kind v_p1_setKind v_p1_setNo v_p1_setYes y1 v_t_touched v_t_fitting zz v_t_into v_t_kind v_t_setKind v_t_setNo v_t_setYes)) K 2 10 0 (fun h => h) rfl rfl rfl rfl (fun _ _ => rfl) q_4_42 q_2_205 q_2_204 q_1_12 (Nat.le_of_ble_eq_true rfl) (Nat.le_of_ble_eq_true rfl) dX1_copyFrom_20 hF (fun _ => rfl) (fun f2 ef2 hF => ?_)
  refine gg_aload_n (pc := 23) K 1 dX1_copyFrom_23 rfl rfl ?_
  refine gg_get (pc := 24) K 0 3 i_X1 rfl rfl (by decide) q_1_75 rfl dX1_copyFrom_24 ?_
  refine gg_iconst (v := (0 : Int32)) (pc := 27) K dX1_copyFrom_27 (by decide) ?_
  refine gg_aload_n (pc := 28) K 0 dX1_copyFrom_28 rfl rfl ?_
  refine gg_get (pc := 29) K 8 3 i_X1 rfl rfl (by decide) q_1_75 rfl dX1_copyFrom_29 ?_
  refine gg_iconst (v := (0 : Int32)) (pc := 32) K dX1_copyFrom_32 (by decide) ?_
  refine gg_bipush (v := (16 : Int32)) (pc := 33) K dX1_copyFrom_33 (by decide) ?_
  refine gg_cpyi (pc := 35) (wf := fun zz => (W_X1_copyFrom (bu_E B) a_p1 a_p1_how a_p1_into a_p1_kind a_p1_setKind a_p1_setYes a_p1_setNo a_p1_fitting a_t a_t_how a_t_into a_t_kind a_t_setKind a_t_setYes a_t_setNo a_t_fitting v_p1_count v_p1_touched v_p1_fitting v_p1_how v_p1_into v_p1_kind v_p1_setKind v_p1_setNo v_p1_setYes y1 v_t_touched v_t_fitting f2 zz v_t_kind v_t_setKind v_t_setNo v_t_setYes)) K 3 11 0 (fun h => h) rfl rfl rfl rfl (fun _ _ => rfl) q_4_42 q_2_205 q_2_204 q_1_12 (Nat.le_of_ble_eq_true rfl) (Nat.le_of_ble_eq_true rfl) dX1_copyFrom_35 hF (fun _ => rfl) (fun f3 ef3 hF => ?_)
  refine gg_aload_n (pc := 38) K 1 dX1_copyFrom_38 rfl rfl ?_
  refine gg_get (pc := 39) K 0 4 i_X1 rfl rfl (by decide) q_1_77 rfl dX1_copyFrom_39 ?_
  refine gg_iconst (v := (0 : Int32)) (pc := 42) K dX1_copyFrom_42 (by decide) ?_
  refine gg_aload_n (pc := 43) K 0 dX1_copyFrom_43 rfl rfl ?_
  refine gg_get (pc := 44) K 8 4 i_X1 rfl rfl (by decide) q_1_77 rfl dX1_copyFrom_44 ?_
  refine gg_iconst (v := (0 : Int32)) (pc := 47) K dX1_copyFrom_47 (by decide) ?_
  refine gg_bipush (v := (16 : Int32)) (pc := 48) K dX1_copyFrom_48 (by decide) ?_
  refine gg_cpyi (pc := 50) (wf := fun zz => (W_X1_copyFrom (bu_E B) a_p1 a_p1_how a_p1_into a_p1_kind a_p1_setKind a_p1_setYes a_p1_setNo a_p1_fitting a_t a_t_how a_t_into a_t_kind a_t_setKind a_t_setYes a_t_setNo a_t_fitting v_p1_count v_p1_touched v_p1_fitting v_p1_how v_p1_into v_p1_kind v_p1_setKind v_p1_setNo v_p1_setYes y1 v_t_touched v_t_fitting f2 f3 zz v_t_setKind v_t_setNo v_t_setYes)) K 4 12 0 (fun h => h) rfl rfl rfl rfl (fun _ _ => rfl) q_4_42 q_2_205 q_2_204 q_1_12 (Nat.le_of_ble_eq_true rfl) (Nat.le_of_ble_eq_true rfl) dX1_copyFrom_50 hF (fun _ => rfl) (fun f4 ef4 hF => ?_)
  refine gg_aload_n (pc := 53) K 1 dX1_copyFrom_53 rfl rfl ?_
  refine gg_get (pc := 54) K 0 5 i_X1 rfl rfl (by decide) q_1_78 rfl dX1_copyFrom_54 ?_
  refine gg_iconst (v := (0 : Int32)) (pc := 57) K dX1_copyFrom_57 (by decide) ?_
  refine gg_aload_n (pc := 58) K 0 dX1_copyFrom_58 rfl rfl ?_
  refine gg_get (pc := 59) K 8 5 i_X1 rfl rfl (by decide) q_1_78 rfl dX1_copyFrom_59 ?_
  refine gg_iconst (v := (0 : Int32)) (pc := 62) K dX1_copyFrom_62 (by decide) ?_
  refine gg_bipush (v := (48 : Int32)) (pc := 63) K dX1_copyFrom_63 (by decide) ?_
  refine gg_cpyi (pc := 65) (wf := fun zz => (W_X1_copyFrom (bu_E B) a_p1 a_p1_how a_p1_into a_p1_kind a_p1_setKind a_p1_setYes a_p1_setNo a_p1_fitting a_t a_t_how a_t_into a_t_kind a_t_setKind a_t_setYes a_t_setNo a_t_fitting v_p1_count v_p1_touched v_p1_fitting v_p1_how v_p1_into v_p1_kind v_p1_setKind v_p1_setNo v_p1_setYes y1 v_t_touched v_t_fitting f2 f3 f4 zz v_t_setNo v_t_setYes)) K 5 13 0 (fun h => h) rfl rfl rfl rfl (fun _ _ => rfl) q_4_42 q_2_205 q_2_204 q_1_12 (Nat.le_of_ble_eq_true rfl) (Nat.le_of_ble_eq_true rfl) dX1_copyFrom_65 hF (fun _ => rfl) (fun f5 ef5 hF => ?_)
  refine gg_aload_n (pc := 68) K 1 dX1_copyFrom_68 rfl rfl ?_
  refine gg_get (pc := 69) K 0 6 i_X1 rfl rfl (by decide) q_1_79 rfl dX1_copyFrom_69 ?_
  refine gg_iconst (v := (0 : Int32)) (pc := 72) K dX1_copyFrom_72 (by decide) ?_
  refine gg_aload_n (pc := 73) K 0 dX1_copyFrom_73 rfl rfl ?_
  refine gg_get (pc := 74) K 8 6 i_X1 rfl rfl (by decide) q_1_79 rfl dX1_copyFrom_74 ?_
  refine gg_iconst (v := (0 : Int32)) (pc := 77) K dX1_copyFrom_77 (by decide) ?_
  refine gg_bipush (v := (48 : Int32)) (pc := 78) K dX1_copyFrom_78 (by decide) ?_
  refine gg_cpyi (pc := 80) (wf := fun zz => (W_X1_copyFrom (bu_E B) a_p1 a_p1_how a_p1_into a_p1_kind a_p1_setKind a_p1_setYes a_p1_setNo a_p1_fitting a_t a_t_how a_t_into a_t_kind a_t_setKind a_t_setYes a_t_setNo a_t_fitting v_p1_count v_p1_touched v_p1_fitting v_p1_how v_p1_into v_p1_kind v_p1_setKind v_p1_setNo v_p1_setYes y1 v_t_touched v_t_fitting f2 f3 f4 f5 v_t_setNo zz)) K 7 15 0 (fun h => h) rfl rfl rfl rfl (fun _ _ => rfl) q_4_42 q_2_205 q_2_204 q_1_12 (Nat.le_of_ble_eq_true rfl) (Nat.le_of_ble_eq_true rfl) dX1_copyFrom_80 hF (fun _ => rfl) (fun f6 ef6 hF => ?_)
  refine gg_aload_n (pc := 83) K 1 dX1_copyFrom_83 rfl rfl ?_
  refine gg_get (pc := 84) K 0 7 i_X1 rfl rfl (by decide) q_1_80 rfl dX1_copyFrom_84 ?_
  refine gg_iconst (v := (0 : Int32)) (pc := 87) K dX1_copyFrom_87 (by decide) ?_
  refine gg_aload_n (pc := 88) K 0 dX1_copyFrom_88 rfl rfl ?_
  refine gg_get (pc := 89) K 8 7 i_X1 rfl rfl (by decide) q_1_80 rfl dX1_copyFrom_89 ?_
  refine gg_iconst (v := (0 : Int32)) (pc := 92) K dX1_copyFrom_92 (by decide) ?_
  refine gg_bipush (v := (48 : Int32)) (pc := 93) K dX1_copyFrom_93 (by decide) ?_
  refine gg_cpyi (pc := 95) (wf := fun zz => (W_X1_copyFrom (bu_E B) a_p1 a_p1_how a_p1_into a_p1_kind a_p1_setKind a_p1_setYes a_p1_setNo a_p1_fitting a_t a_t_how a_t_into a_t_kind a_t_setKind a_t_setYes a_t_setNo a_t_fitting v_p1_count v_p1_touched v_p1_fitting v_p1_how v_p1_into v_p1_kind v_p1_setKind v_p1_setNo v_p1_setYes y1 v_t_touched v_t_fitting f2 f3 f4 f5 zz f6)) K 6 14 0 (fun h => h) rfl rfl rfl rfl (fun _ _ => rfl) q_4_42 q_2_205 q_2_204 q_1_12 (Nat.le_of_ble_eq_true rfl) (Nat.le_of_ble_eq_true rfl) dX1_copyFrom_95 hF (fun _ => rfl) (fun f7 ef7 hF => ?_)
  refine gg_aload_n (pc := 98) K 1 dX1_copyFrom_98 rfl rfl ?_
  refine gg_get (pc := 99) K 0 8 i_X1 rfl rfl (by decide) q_1_81 rfl dX1_copyFrom_99 ?_
  refine gg_iconst (v := (0 : Int32)) (pc := 102) K dX1_copyFrom_102 (by decide) ?_
  refine gg_aload_n (pc := 103) K 0 dX1_copyFrom_103 rfl rfl ?_
  refine gg_get (pc := 104) K 8 8 i_X1 rfl rfl (by decide) q_1_81 rfl dX1_copyFrom_104 ?_
  refine gg_iconst (v := (0 : Int32)) (pc := 107) K dX1_copyFrom_107 (by decide) ?_
  refine gg_bipush (v := (48 : Int32)) (pc := 108) K dX1_copyFrom_108 (by decide) ?_
  refine gg_cpyi (pc := 110) (wf := fun zz => (W_X1_copyFrom (bu_E B) a_p1 a_p1_how a_p1_into a_p1_kind a_p1_setKind a_p1_setYes a_p1_setNo a_p1_fitting a_t a_t_how a_t_into a_t_kind a_t_setKind a_t_setYes a_t_setNo a_t_fitting v_p1_count v_p1_touched v_p1_fitting v_p1_how v_p1_into v_p1_kind v_p1_setKind v_p1_setNo v_p1_setYes y1 v_t_touched zz f2 f3 f4 f5 f7 f6)) K 1 9 0 (fun h => h) rfl rfl rfl rfl (fun _ _ => rfl) q_4_42 q_2_205 q_2_204 q_1_12 (Nat.le_of_ble_eq_true rfl) (Nat.le_of_ble_eq_true rfl) dX1_copyFrom_110 hF (fun _ => rfl) (fun f8 ef8 hF => ?_)
  cases hF
  exact (hQ _ _ _ rfl).1 rfl rfl dX1_copyFrom_113
def F_X1_copyFrom  (v_p1_count : Int32) (v_p1_fitting : (Nat → Int32)) (v_p1_how : (Nat → Int32)) (v_p1_into : (Nat → Int32)) (v_p1_kind : (Nat → Int32)) (v_p1_setKind : (Nat → Int32)) (v_p1_setNo : (Nat → Int32)) (v_p1_setYes : (Nat → Int32)) (v_t_count : Int32) (v_t_fitting : (Nat → Int32)) (v_t_how : (Nat → Int32)) (v_t_into : (Nat → Int32)) (v_t_kind : (Nat → Int32)) (v_t_setKind : (Nat → Int32)) (v_t_setNo : (Nat → Int32)) (v_t_setYes : (Nat → Int32)) : Option (Int32 × (Nat → Int32) × (Nat → Int32) × (Nat → Int32) × (Nat → Int32) × (Nat → Int32) × (Nat → Int32) × (Nat → Int32)) := F_X1_copyFrom_0 v_p1_count v_p1_fitting v_p1_how v_p1_into v_p1_kind v_p1_setKind v_p1_setNo v_p1_setYes v_t_count v_t_fitting v_t_how v_t_into v_t_kind v_t_setKind v_t_setNo v_t_setYes
theorem n_X1_copyFrom : yX1_copyFrom.cls = "SoundDesk$Laws" ∧ yX1_copyFrom.cls ≠ "java/lang/invoke/MethodHandle" ∧ yX1_copyFrom.cls ≠ "java/lang/invoke/VarHandle" ∧ (parseMethodDescriptor yX1_copyFrom.desc).map (fun d => d.parameters.length) = some 1 := by decide +kernel
theorem c_X1_copyFrom (l : Launch) (E : en_T) (a_p1 a_p1_how a_p1_into a_p1_kind a_p1_setKind a_p1_setYes a_p1_setNo a_p1_fitting a_t a_t_how a_t_into a_t_kind a_t_setKind a_t_setYes a_t_setNo a_t_fitting : Nat)  (v_p1_count : Int32) (v_p1_touched : Int32) (v_p1_fitting : (Nat → Int32)) (v_p1_how : (Nat → Int32)) (v_p1_into : (Nat → Int32)) (v_p1_kind : (Nat → Int32)) (v_p1_setKind : (Nat → Int32)) (v_p1_setNo : (Nat → Int32)) (v_p1_setYes : (Nat → Int32)) (v_t_count : Int32) (v_t_touched : Int32) (v_t_fitting : (Nat → Int32)) (v_t_how : (Nat → Int32)) (v_t_into : (Nat → Int32)) (v_t_kind : (Nat → Int32)) (v_t_setKind : (Nat → Int32)) (v_t_setNo : (Nat → Int32)) (v_t_setYes : (Nat → Int32)) {o_t_count : Int32} {o_t_fitting : (Nat → Int32)} {o_t_how : (Nat → Int32)} {o_t_into : (Nat → Int32)} {o_t_kind : (Nat → Int32)} {o_t_setKind : (Nat → Int32)} {o_t_setNo : (Nat → Int32)} {o_t_setYes : (Nat → Int32)} (hF : F_X1_copyFrom  v_p1_count v_p1_fitting v_p1_how v_p1_into v_p1_kind v_p1_setKind v_p1_setNo v_p1_setYes v_t_count v_t_fitting v_t_how v_t_into v_t_kind v_t_setKind v_t_setNo v_t_setYes = some (o_t_count, o_t_fitting, o_t_how, o_t_into, o_t_kind, o_t_setKind, o_t_setNo, o_t_setYes)) : ct l yX1_copyFrom cX1_copyFrom 2 none rm_X1_copyFrom E [.ref a_t, .ref a_p1] (W_X1_copyFrom E a_p1 a_p1_how a_p1_into a_p1_kind a_p1_setKind a_p1_setYes a_p1_setNo a_p1_fitting a_t a_t_how a_t_into a_t_kind a_t_setKind a_t_setYes a_t_setNo a_t_fitting v_p1_count v_p1_touched v_p1_fitting v_p1_how v_p1_into v_p1_kind v_p1_setKind v_p1_setNo v_p1_setYes v_t_count v_t_touched v_t_fitting v_t_how v_t_into v_t_kind v_t_setKind v_t_setNo v_t_setYes) none (fun x => x = (W_X1_copyFrom E a_p1 a_p1_how a_p1_into a_p1_kind a_p1_setKind a_p1_setYes a_p1_setNo a_p1_fitting a_t a_t_how a_t_into a_t_kind a_t_setKind a_t_setYes a_t_setNo a_t_fitting v_p1_count v_p1_touched v_p1_fitting v_p1_how v_p1_into v_p1_kind v_p1_setKind v_p1_setNo v_p1_setYes o_t_count v_t_touched o_t_fitting o_t_how o_t_into o_t_kind o_t_setKind o_t_setNo o_t_setYes)) := by
  refine ct_of (by decide +kernel) (Nat.le_of_ble_eq_true rfl) (fun B hl hE _ K hQ => ?_)
  subst hl; subst hE
  refine gg_sub (lv' := [(0, .ref a_t), (1, .ref a_p1)]) [0, 1] rfl ?_
  exact w_X1_copyFrom_0 K hQ hF
theorem dX1_has_0 : decode cX1_has 0 = .ok (.iload_n 1, 1) := by decide +kernel
theorem dX1_has_1 : decode cX1_has 1 = .ok (.ifCond .lt 15, 3) := by decide +kernel
theorem dX1_has_4 : decode cX1_has 4 = .ok (.iload_n 1, 1) := by decide +kernel
theorem dX1_has_5 : decode cX1_has 5 = .ok (.aload_n 0, 1) := by decide +kernel
theorem dX1_has_6 : decode cX1_has 6 = .ok (.getfield 11, 3) := by decide +kernel
theorem dX1_has_9 : decode cX1_has 9 = .ok (.if_icmp .ge 7, 3) := by decide +kernel
theorem dX1_has_12 : decode cX1_has 12 = .ok (.iconst 1, 1) := by decide +kernel
theorem dX1_has_13 : decode cX1_has 13 = .ok (.goto 4, 3) := by decide +kernel
theorem dX1_has_16 : decode cX1_has 16 = .ok (.iconst 0, 1) := by decide +kernel
theorem dX1_has_17 : decode cX1_has 17 = .ok (.ireturn, 1) := by decide +kernel
def rm_X1_has : Room := { frames := 0, cells := 0, slots := 0, locals := 0 }
def W_X1_has (E : en_T) (a_t a_t_how a_t_into a_t_kind a_t_setKind a_t_setYes a_t_setNo a_t_fitting : Nat) (v_t_count : Int32) (v_t_touched : Int32) : va_W := [(a_t, .inr (1, [.int v_t_count, .int v_t_touched, .ref a_t_how, .ref a_t_into, .ref a_t_kind, .ref a_t_setKind, .ref a_t_setYes, .ref a_t_setNo, .ref a_t_fitting]))]
def F_X1_has_0  (x1 : Int32) (v_t_count : Int32) : Option (Int32) := if x1 < (0 : Int32) then (some ((0 : Int32))) else (if v_t_count ≤ x1 then (some ((0 : Int32))) else (some ((1 : Int32))))
set_option maxHeartbeats 4000000 in
theorem w_X1_has_0 {B : bu_T} {a_t a_t_how a_t_into a_t_kind a_t_setKind a_t_setYes a_t_setNo a_t_fitting : Nat} {v_t_count : Int32} {v_t_touched : Int32} {r : Int32}  (K : cx B cX1_has "SoundDesk$Laws" rm_X1_has 2) (hQ : rt B cX1_has 2 (some .boolean) rm_X1_has (some (.int r)) (fun x => x = (W_X1_has (bu_E B) a_t a_t_how a_t_into a_t_kind a_t_setKind a_t_setYes a_t_setNo a_t_fitting v_t_count v_t_touched))) {x1 : Int32} (hF : F_X1_has_0  x1 v_t_count = some (r)) : gg B 2 0 0 0 [(0, .ref a_t), (1, .int x1)] [] (W_X1_has (bu_E B) a_t a_t_how a_t_into a_t_kind a_t_setKind a_t_setYes a_t_setNo a_t_fitting v_t_count v_t_touched) := by
  unfold F_X1_has_0 at hF
  refine gg_iload_n (pc := 0) K 1 dX1_has_0 rfl rfl ?_
  refine gg_if_lt (pc := 1) K 16 dX1_has_1 rfl hF (fun c1 hF => ?_) (fun c1 hF => ?_)
  · refine gg_iconst (v := (0 : Int32)) (pc := 16) K dX1_has_16 (by decide) ?_
    cases hF
    exact (hQ _ _ _ rfl).2.1 _ _ rfl rfl rfl dX1_has_17
  · refine gg_iload_n (pc := 4) K 1 dX1_has_4 rfl rfl ?_
    refine gg_aload_n (pc := 5) K 0 dX1_has_5 rfl rfl ?_
    refine gg_get (pc := 6) K 0 0 i_X1 rfl rfl (by decide) q_1_69 rfl dX1_has_6 ?_
    refine gg_icmp_ge (pc := 9) K 16 dX1_has_9 rfl hF (fun c2 hF => ?_) (fun c2 hF => ?_)
    · refine gg_iconst (v := (0 : Int32)) (pc := 16) K dX1_has_16 (by decide) ?_
      cases hF
      exact (hQ _ _ _ rfl).2.1 _ _ rfl rfl rfl dX1_has_17
    · refine gg_iconst (v := (1 : Int32)) (pc := 12) K dX1_has_12 (by decide) ?_
      refine gg_goto (pc := 13) K 17 dX1_has_13 rfl ?_
      cases hF
      exact (hQ _ _ _ rfl).2.1 _ _ rfl rfl rfl dX1_has_17
def F_X1_has (x1 : Int32) (v_t_count : Int32) : Option (Int32) := F_X1_has_0 x1 v_t_count
theorem n_X1_has : yX1_has.cls = "SoundDesk$Laws" ∧ yX1_has.cls ≠ "java/lang/invoke/MethodHandle" ∧ yX1_has.cls ≠ "java/lang/invoke/VarHandle" ∧ (parseMethodDescriptor yX1_has.desc).map (fun d => d.parameters.length) = some 1 := by decide +kernel
theorem c_X1_has (l : Launch) (E : en_T) (a_t a_t_how a_t_into a_t_kind a_t_setKind a_t_setYes a_t_setNo a_t_fitting : Nat) (x1 : Int32) (v_t_count : Int32) (v_t_touched : Int32) {r : Int32}  (hF : F_X1_has x1 v_t_count = some (r)) : ct l yX1_has cX1_has 2 (some .boolean) rm_X1_has E [.ref a_t, .int x1] (W_X1_has E a_t a_t_how a_t_into a_t_kind a_t_setKind a_t_setYes a_t_setNo a_t_fitting v_t_count v_t_touched) (some (.int r)) (fun x => x = (W_X1_has E a_t a_t_how a_t_into a_t_kind a_t_setKind a_t_setYes a_t_setNo a_t_fitting v_t_count v_t_touched)) := by
  refine ct_of (by decide +kernel) (Nat.le_of_ble_eq_true rfl) (fun B hl hE _ K hQ => ?_)
  subst hl; subst hE
  refine gg_sub (lv' := [(0, .ref a_t), (1, .int x1)]) [0, 1] rfl ?_
  exact w_X1_has_0 K hQ hF
theorem dX1_fittingBits_0 : decode cX1_fittingBits 0 = .ok (.aload_n 0, 1) := by decide +kernel
theorem dX1_fittingBits_1 : decode cX1_fittingBits 1 = .ok (.getfield 28, 3) := by decide +kernel
theorem dX1_fittingBits_4 : decode cX1_fittingBits 4 = .ok (.iload_n 1, 1) := by decide +kernel
theorem dX1_fittingBits_5 : decode cX1_fittingBits 5 = .ok (.iaload, 1) := by decide +kernel
theorem dX1_fittingBits_6 : decode cX1_fittingBits 6 = .ok (.bipush (-2), 2) := by decide +kernel
theorem dX1_fittingBits_8 : decode cX1_fittingBits 8 = .ok (.if_icmp .ne 7, 3) := by decide +kernel
theorem dX1_fittingBits_11 : decode cX1_fittingBits 11 = .ok (.sipush 511, 3) := by decide +kernel
theorem dX1_fittingBits_14 : decode cX1_fittingBits 14 = .ok (.ireturn, 1) := by decide +kernel
theorem dX1_fittingBits_15 : decode cX1_fittingBits 15 = .ok (.aload_n 0, 1) := by decide +kernel
theorem dX1_fittingBits_16 : decode cX1_fittingBits 16 = .ok (.getfield 28, 3) := by decide +kernel
theorem dX1_fittingBits_19 : decode cX1_fittingBits 19 = .ok (.iload_n 1, 1) := by decide +kernel
theorem dX1_fittingBits_20 : decode cX1_fittingBits 20 = .ok (.iaload, 1) := by decide +kernel
theorem dX1_fittingBits_21 : decode cX1_fittingBits 21 = .ok (.iconst (-1), 1) := by decide +kernel
theorem dX1_fittingBits_22 : decode cX1_fittingBits 22 = .ok (.if_icmp .ne 7, 3) := by decide +kernel
theorem dX1_fittingBits_25 : decode cX1_fittingBits 25 = .ok (.sipush 256, 3) := by decide +kernel
theorem dX1_fittingBits_28 : decode cX1_fittingBits 28 = .ok (.ireturn, 1) := by decide +kernel
theorem dX1_fittingBits_29 : decode cX1_fittingBits 29 = .ok (.iconst 0, 1) := by decide +kernel
theorem dX1_fittingBits_30 : decode cX1_fittingBits 30 = .ok (.istore_n 3, 1) := by decide +kernel
theorem dX1_fittingBits_31 : decode cX1_fittingBits 31 = .ok (.iconst 0, 1) := by decide +kernel
theorem dX1_fittingBits_32 : decode cX1_fittingBits 32 = .ok (.istore 4, 2) := by decide +kernel
theorem dX1_fittingBits_34 : decode cX1_fittingBits 34 = .ok (.iload 4, 2) := by decide +kernel
theorem dX1_fittingBits_36 : decode cX1_fittingBits 36 = .ok (.aload_n 2, 1) := by decide +kernel
theorem dX1_fittingBits_37 : decode cX1_fittingBits 37 = .ok (.getfield 67, 3) := by decide +kernel
theorem dX1_fittingBits_40 : decode cX1_fittingBits 40 = .ok (.if_icmp .ge 43, 3) := by decide +kernel
theorem dX1_fittingBits_43 : decode cX1_fittingBits 43 = .ok (.aload_n 2, 1) := by decide +kernel
theorem dX1_fittingBits_44 : decode cX1_fittingBits 44 = .ok (.iload 4, 2) := by decide +kernel
theorem dX1_fittingBits_46 : decode cX1_fittingBits 46 = .ok (.aload_n 0, 1) := by decide +kernel
theorem dX1_fittingBits_47 : decode cX1_fittingBits 47 = .ok (.getfield 28, 3) := by decide +kernel
theorem dX1_fittingBits_50 : decode cX1_fittingBits 50 = .ok (.iload_n 1, 1) := by decide +kernel
theorem dX1_fittingBits_51 : decode cX1_fittingBits 51 = .ok (.iaload, 1) := by decide +kernel
theorem dX1_fittingBits_52 : decode cX1_fittingBits 52 = .ok (.aload_n 0, 1) := by decide +kernel
theorem dX1_fittingBits_53 : decode cX1_fittingBits 53 = .ok (.getfield 31, 3) := by decide +kernel
theorem dX1_fittingBits_56 : decode cX1_fittingBits 56 = .ok (.iload_n 1, 1) := by decide +kernel
theorem dX1_fittingBits_57 : decode cX1_fittingBits 57 = .ok (.iaload, 1) := by decide +kernel
theorem dX1_fittingBits_58 : decode cX1_fittingBits 58 = .ok (.aload_n 0, 1) := by decide +kernel
theorem dX1_fittingBits_59 : decode cX1_fittingBits 59 = .ok (.getfield 34, 3) := by decide +kernel
theorem dX1_fittingBits_62 : decode cX1_fittingBits 62 = .ok (.iload_n 1, 1) := by decide +kernel
theorem dX1_fittingBits_63 : decode cX1_fittingBits 63 = .ok (.iaload, 1) := by decide +kernel
theorem dX1_fittingBits_64 : decode cX1_fittingBits 64 = .ok (.invokevirtual 68, 3) := by decide +kernel
theorem dX1_fittingBits_67 : decode cX1_fittingBits 67 = .ok (.ifCond .eq 10, 3) := by decide +kernel
theorem dX1_fittingBits_70 : decode cX1_fittingBits 70 = .ok (.iload_n 3, 1) := by decide +kernel
theorem dX1_fittingBits_71 : decode cX1_fittingBits 71 = .ok (.iconst 1, 1) := by decide +kernel
theorem dX1_fittingBits_72 : decode cX1_fittingBits 72 = .ok (.iload 4, 2) := by decide +kernel
theorem dX1_fittingBits_74 : decode cX1_fittingBits 74 = .ok (.ishl, 1) := by decide +kernel
theorem dX1_fittingBits_75 : decode cX1_fittingBits 75 = .ok (.ior, 1) := by decide +kernel
theorem dX1_fittingBits_76 : decode cX1_fittingBits 76 = .ok (.istore_n 3, 1) := by decide +kernel
theorem dX1_fittingBits_77 : decode cX1_fittingBits 77 = .ok (.iinc 4 1, 3) := by decide +kernel
theorem dX1_fittingBits_80 : decode cX1_fittingBits 80 = .ok (.goto (-46), 3) := by decide +kernel
theorem dX1_fittingBits_83 : decode cX1_fittingBits 83 = .ok (.iload_n 3, 1) := by decide +kernel
theorem dX1_fittingBits_84 : decode cX1_fittingBits 84 = .ok (.ireturn, 1) := by decide +kernel
def rm_X1_fittingBits : Room := { frames := 2, cells := 0, slots := 0, locals := 47 }
def W_X1_fittingBits (E : en_T) (a_p2 a_p2_kind a_p2_yes a_p2_no a_t a_t_how a_t_into a_t_kind a_t_setKind a_t_setYes a_t_setNo a_t_fitting : Nat) (v_p2_count : Int32) (v_p2_missingRows : Int32) (v_p2_kind : (Nat → Int32)) (v_p2_no : (Nat → Int32)) (v_p2_yes : (Nat → Int32)) (v_t_count : Int32) (v_t_touched : Int32) (v_t_setKind : (Nat → Int32)) (v_t_setNo : (Nat → Int32)) (v_t_setYes : (Nat → Int32)) : va_W := [(a_p2, .inr (5, [.int v_p2_count, .int v_p2_missingRows, .ref a_p2_kind, .ref a_p2_yes, .ref a_p2_no])), (a_p2_kind, .inl (en_I E, 8, .inl v_p2_kind)), (a_p2_no, .inl (en_I E, 8, .inl v_p2_no)), (a_p2_yes, .inl (en_I E, 8, .inl v_p2_yes)), (a_t, .inr (1, [.int v_t_count, .int v_t_touched, .ref a_t_how, .ref a_t_into, .ref a_t_kind, .ref a_t_setKind, .ref a_t_setYes, .ref a_t_setNo, .ref a_t_fitting])), (a_t_setKind, .inl (en_I E, 48, .inl v_t_setKind)), (a_t_setNo, .inl (en_I E, 48, .inl v_t_setNo)), (a_t_setYes, .inl (en_I E, 48, .inl v_t_setYes))]
def F_X1_fittingBits_77 (k34 : Int32 → Int32 → Option (Int32)) (x1 : Int32) (x3 : Int32) (x4 : Int32) (v_p2_count : Int32) (v_p2_kind : (Nat → Int32)) (v_p2_no : (Nat → Int32)) (v_p2_yes : (Nat → Int32)) (v_t_setKind : (Nat → Int32)) (v_t_setNo : (Nat → Int32)) (v_t_setYes : (Nat → Int32)) : Option (Int32) := lt_ (x4 + (1 : Int32)) (fun y1 => k34 x3 y1)
set_option maxHeartbeats 4000000 in
theorem w_X1_fittingBits_77 {B : bu_T} {a_p2 a_p2_kind a_p2_yes a_p2_no a_t a_t_how a_t_into a_t_kind a_t_setKind a_t_setYes a_t_setNo a_t_fitting : Nat} {v_p2_count : Int32} {v_p2_missingRows : Int32} {v_p2_kind : (Nat → Int32)} {v_p2_no : (Nat → Int32)} {v_p2_yes : (Nat → Int32)} {v_t_count : Int32} {v_t_touched : Int32} {v_t_setKind : (Nat → Int32)} {v_t_setNo : (Nat → Int32)} {v_t_setYes : (Nat → Int32)} {r : Int32}  (K : cx B cX1_fittingBits "SoundDesk$Laws" rm_X1_fittingBits 5) (hQ : rt B cX1_fittingBits 5 (some .int) rm_X1_fittingBits (some (.int r)) (fun x => x = (W_X1_fittingBits (bu_E B) a_p2 a_p2_kind a_p2_yes a_p2_no a_t a_t_how a_t_into a_t_kind a_t_setKind a_t_setYes a_t_setNo a_t_fitting v_p2_count v_p2_missingRows v_p2_kind v_p2_no v_p2_yes v_t_count v_t_touched v_t_setKind v_t_setNo v_t_setYes))) {x1 : Int32} {x3 : Int32} {x4 : Int32} {k34 : Int32 → Int32 → Option (Int32)} (hk34 : ∀ (x3 : Int32) (x4 : Int32), k34 x3 x4 = some (r) → gg B 5 0 0 34 [(0, .ref a_t), (1, .int x1), (2, .ref a_p2), (3, .int x3), (4, .int x4)] [] (W_X1_fittingBits (bu_E B) a_p2 a_p2_kind a_p2_yes a_p2_no a_t a_t_how a_t_into a_t_kind a_t_setKind a_t_setYes a_t_setNo a_t_fitting v_p2_count v_p2_missingRows v_p2_kind v_p2_no v_p2_yes v_t_count v_t_touched v_t_setKind v_t_setNo v_t_setYes)) (hF : F_X1_fittingBits_77 k34 x1 x3 x4 v_p2_count v_p2_kind v_p2_no v_p2_yes v_t_setKind v_t_setNo v_t_setYes = some (r)) : gg B 5 0 0 77 [(0, .ref a_t), (1, .int x1), (2, .ref a_p2), (3, .int x3), (4, .int x4)] [] (W_X1_fittingBits (bu_E B) a_p2 a_p2_kind a_p2_yes a_p2_no a_t a_t_how a_t_into a_t_kind a_t_setKind a_t_setYes a_t_setNo a_t_fitting v_p2_count v_p2_missingRows v_p2_kind v_p2_no v_p2_yes v_t_count v_t_touched v_t_setKind v_t_setNo v_t_setYes) := by
  unfold F_X1_fittingBits_77 at hF
  refine gg_iinc (pc := 77) (v := (1 : Int32)) (lw := fun zz => [(0, .ref a_t), (1, .int x1), (2, .ref a_p2), (3, .int x3), (4, .int zz)]) K 4 [1, 2, 3, 4, 0] dX1_fittingBits_77 rfl rfl (by decide) hF (fun _ => rfl) (fun y1 ey1 hF => ?_)
  refine gg_goto (pc := 80) K 34 dX1_fittingBits_80 rfl ?_
  exact hk34 x3 y1 hF
def F_X1_fittingBits_34 (k34 : Int32 → Int32 → Option (Int32)) (x1 : Int32) (x3 : Int32) (x4 : Int32) (v_p2_count : Int32) (v_p2_kind : (Nat → Int32)) (v_p2_no : (Nat → Int32)) (v_p2_yes : (Nat → Int32)) (v_t_setKind : (Nat → Int32)) (v_t_setNo : (Nat → Int32)) (v_t_setYes : (Nat → Int32)) : Option (Int32) := if v_p2_count ≤ x4 then (some (x3)) else (ck_ x1 48 (ck_ x1 48 (ck_ x1 48 (bn1_ (F_X5_fits x4 (v_t_setKind (Int32.toNatClampNeg x1)) (v_t_setYes (Int32.toNatClampNeg x1)) (v_t_setNo (Int32.toNatClampNeg x1)) v_p2_kind v_p2_no v_p2_yes) (fun y3 => if y3 = (0 : Int32) then (F_X1_fittingBits_77 k34 x1 x3 x4 v_p2_count v_p2_kind v_p2_no v_p2_yes v_t_setKind v_t_setNo v_t_setYes) else (lt_ (x3 ||| ((1 : Int32) <<< (x4 &&& 31))) (fun y6 => F_X1_fittingBits_77 k34 x1 y6 x4 v_p2_count v_p2_kind v_p2_no v_p2_yes v_t_setKind v_t_setNo v_t_setYes)))))))
set_option maxHeartbeats 4000000 in
theorem w_X1_fittingBits_34 {B : bu_T} {a_p2 a_p2_kind a_p2_yes a_p2_no a_t a_t_how a_t_into a_t_kind a_t_setKind a_t_setYes a_t_setNo a_t_fitting : Nat} {v_p2_count : Int32} {v_p2_missingRows : Int32} {v_p2_kind : (Nat → Int32)} {v_p2_no : (Nat → Int32)} {v_p2_yes : (Nat → Int32)} {v_t_count : Int32} {v_t_touched : Int32} {v_t_setKind : (Nat → Int32)} {v_t_setNo : (Nat → Int32)} {v_t_setYes : (Nat → Int32)} {r : Int32}  (K : cx B cX1_fittingBits "SoundDesk$Laws" rm_X1_fittingBits 5) (hQ : rt B cX1_fittingBits 5 (some .int) rm_X1_fittingBits (some (.int r)) (fun x => x = (W_X1_fittingBits (bu_E B) a_p2 a_p2_kind a_p2_yes a_p2_no a_t a_t_how a_t_into a_t_kind a_t_setKind a_t_setYes a_t_setNo a_t_fitting v_p2_count v_p2_missingRows v_p2_kind v_p2_no v_p2_yes v_t_count v_t_touched v_t_setKind v_t_setNo v_t_setYes))) {x1 : Int32} {x3 : Int32} {x4 : Int32} {k34 : Int32 → Int32 → Option (Int32)} (hk34 : ∀ (x3 : Int32) (x4 : Int32), k34 x3 x4 = some (r) → gg B 5 0 0 34 [(0, .ref a_t), (1, .int x1), (2, .ref a_p2), (3, .int x3), (4, .int x4)] [] (W_X1_fittingBits (bu_E B) a_p2 a_p2_kind a_p2_yes a_p2_no a_t a_t_how a_t_into a_t_kind a_t_setKind a_t_setYes a_t_setNo a_t_fitting v_p2_count v_p2_missingRows v_p2_kind v_p2_no v_p2_yes v_t_count v_t_touched v_t_setKind v_t_setNo v_t_setYes)) (hF : F_X1_fittingBits_34 k34 x1 x3 x4 v_p2_count v_p2_kind v_p2_no v_p2_yes v_t_setKind v_t_setNo v_t_setYes = some (r)) : gg B 5 0 0 34 [(0, .ref a_t), (1, .int x1), (2, .ref a_p2), (3, .int x3), (4, .int x4)] [] (W_X1_fittingBits (bu_E B) a_p2 a_p2_kind a_p2_yes a_p2_no a_t a_t_how a_t_into a_t_kind a_t_setKind a_t_setYes a_t_setNo a_t_fitting v_p2_count v_p2_missingRows v_p2_kind v_p2_no v_p2_yes v_t_count v_t_touched v_t_setKind v_t_setNo v_t_setYes) := by
  unfold F_X1_fittingBits_34 at hF
  refine gg_iload (pc := 34) K 4 dX1_fittingBits_34 rfl ?_
  refine gg_aload_n (pc := 36) K 2 dX1_fittingBits_36 rfl rfl ?_
  refine gg_get (pc := 37) K 0 0 i_X5 rfl rfl (by decide) q_1_46 rfl dX1_fittingBits_37 ?_
  refine gg_icmp_ge (pc := 40) K 83 dX1_fittingBits_40 rfl hF (fun c2 hF => ?_) (fun c2 hF => ?_)
  · refine gg_iload_n (pc := 83) K 3 dX1_fittingBits_83 rfl rfl ?_
    cases hF
    exact (hQ _ _ _ rfl).2.1 _ _ rfl rfl rfl dX1_fittingBits_84
  · refine gg_aload_n (pc := 43) K 2 dX1_fittingBits_43 rfl rfl ?_
    refine gg_iload (pc := 44) K 4 dX1_fittingBits_44 rfl ?_
    refine gg_aload_n (pc := 46) K 0 dX1_fittingBits_46 rfl rfl ?_
    refine gg_get (pc := 47) K 4 5 i_X1 rfl rfl (by decide) q_1_78 rfl dX1_fittingBits_47 ?_
    refine gg_iload_n (pc := 50) K 1 dX1_fittingBits_50 rfl rfl ?_
    refine gg_iald (pc := 51) K 5 rfl dX1_fittingBits_51 hF (fun hF => ?_)
    refine gg_aload_n (pc := 52) K 0 dX1_fittingBits_52 rfl rfl ?_
    refine gg_get (pc := 53) K 4 6 i_X1 rfl rfl (by decide) q_1_79 rfl dX1_fittingBits_53 ?_
    refine gg_iload_n (pc := 56) K 1 dX1_fittingBits_56 rfl rfl ?_
    refine gg_iald (pc := 57) K 7 rfl dX1_fittingBits_57 hF (fun hF => ?_)
    refine gg_aload_n (pc := 58) K 0 dX1_fittingBits_58 rfl rfl ?_
    refine gg_get (pc := 59) K 4 7 i_X1 rfl rfl (by decide) q_1_80 rfl dX1_fittingBits_59 ?_
    refine gg_iload_n (pc := 62) K 1 dX1_fittingBits_62 rfl rfl ?_
    refine gg_iald (pc := 63) K 6 rfl dX1_fittingBits_63 hF (fun hF => ?_)
    obtain ⟨y3, hc4, hF⟩ := bn1_some hF
    refine gg_dV (pc := 64) (st' := [.int y3]) (rest := []) (w' := (W_X1_fittingBits (bu_E B) a_p2 a_p2_kind a_p2_yes a_p2_no a_t a_t_how a_t_into a_t_kind a_t_setKind a_t_setYes a_t_setNo a_t_fitting v_p2_count v_p2_missingRows v_p2_kind v_p2_no v_p2_yes v_t_count v_t_touched v_t_setKind v_t_setNo v_t_setYes)) K (c_X5_fits (bu_l B) (bu_E B) a_p2 a_p2_kind a_p2_yes a_p2_no x4 (v_t_setKind (Int32.toNatClampNeg x1)) (v_t_setYes (Int32.toNatClampNeg x1)) (v_t_setNo (Int32.toNatClampNeg x1)) v_p2_count v_p2_missingRows v_p2_kind v_p2_no v_p2_yes hc4) ⟨rfl, rfl⟩ q_2_90 q_2_91 q_2_92 q_1_4 q_2_93 n_X5_fits ⟨(Nat.le_of_ble_eq_true rfl), (Nat.le_of_ble_eq_true rfl)⟩ (ci := 5) rfl 0 rfl [0, 1, 2, 3] [true, true, true, true, false, false, false, false] rfl rfl rfl rfl rfl rfl (by decide) rfl rfl rfl ⟨Nat.zero_le _, Nat.zero_le _⟩ (Nat.le_of_ble_eq_true rfl) dX1_fittingBits_64 ?_
    refine gg_if_eq (pc := 67) K 77 dX1_fittingBits_67 rfl hF (fun c5 hF => ?_) (fun c5 hF => ?_)
    · exact w_X1_fittingBits_77 K hQ hk34 hF
    · refine gg_iload_n (pc := 70) K 3 dX1_fittingBits_70 rfl rfl ?_
      refine gg_iconst (v := (1 : Int32)) (pc := 71) K dX1_fittingBits_71 (by decide) ?_
      refine gg_iload (pc := 72) K 4 dX1_fittingBits_72 rfl ?_
      refine gg_ishl (pc := 74) K dX1_fittingBits_74 ?_
      refine gg_ior (pc := 75) K dX1_fittingBits_75 ?_
      refine gg_topi hF (fun y6 ey6 hF => ?_)
      refine gg_istore_n (pc := 76) (lv' := [(0, .ref a_t), (1, .int x1), (2, .ref a_p2), (3, .int y6), (4, .int x4)]) K [1, 2, 3, 0, 4] dX1_fittingBits_76 rfl (by decide) rfl ?_
      exact w_X1_fittingBits_77 K hQ hk34 hF
def F_X1_fittingBits_34L  (x1 : Int32) (v_p2_count : Int32) (v_p2_kind : (Nat → Int32)) (v_p2_no : (Nat → Int32)) (v_p2_yes : (Nat → Int32)) (v_t_setKind : (Nat → Int32)) (v_t_setNo : (Nat → Int32)) (v_t_setYes : (Nat → Int32)) (fuel : Nat) (x3 : Int32) (x4 : Int32) : Option (Int32) := lp2_ (fun k34 x3 x4 => F_X1_fittingBits_34 k34 x1 x3 x4 v_p2_count v_p2_kind v_p2_no v_p2_yes v_t_setKind v_t_setNo v_t_setYes) fuel x3 x4
theorem w_X1_fittingBits_34L {B : bu_T} {a_p2 a_p2_kind a_p2_yes a_p2_no a_t a_t_how a_t_into a_t_kind a_t_setKind a_t_setYes a_t_setNo a_t_fitting : Nat} {v_p2_count : Int32} {v_p2_missingRows : Int32} {v_p2_kind : (Nat → Int32)} {v_p2_no : (Nat → Int32)} {v_p2_yes : (Nat → Int32)} {v_t_count : Int32} {v_t_touched : Int32} {v_t_setKind : (Nat → Int32)} {v_t_setNo : (Nat → Int32)} {v_t_setYes : (Nat → Int32)} {r : Int32}  (K : cx B cX1_fittingBits "SoundDesk$Laws" rm_X1_fittingBits 5) (hQ : rt B cX1_fittingBits 5 (some .int) rm_X1_fittingBits (some (.int r)) (fun x => x = (W_X1_fittingBits (bu_E B) a_p2 a_p2_kind a_p2_yes a_p2_no a_t a_t_how a_t_into a_t_kind a_t_setKind a_t_setYes a_t_setNo a_t_fitting v_p2_count v_p2_missingRows v_p2_kind v_p2_no v_p2_yes v_t_count v_t_touched v_t_setKind v_t_setNo v_t_setYes))) {x1 : Int32} : ∀ (fuel : Nat) (x3 : Int32) (x4 : Int32), F_X1_fittingBits_34L  x1 v_p2_count v_p2_kind v_p2_no v_p2_yes v_t_setKind v_t_setNo v_t_setYes fuel x3 x4 = some (r) → gg B 5 0 0 34 [(0, .ref a_t), (1, .int x1), (2, .ref a_p2), (3, .int x3), (4, .int x4)] [] (W_X1_fittingBits (bu_E B) a_p2 a_p2_kind a_p2_yes a_p2_no a_t a_t_how a_t_into a_t_kind a_t_setKind a_t_setYes a_t_setNo a_t_fitting v_p2_count v_p2_missingRows v_p2_kind v_p2_no v_p2_yes v_t_count v_t_touched v_t_setKind v_t_setNo v_t_setYes) := by
  intro fuel
  induction fuel with
  | zero => intro x3 x4 hF; exact absurd hF (by intro h; cases h)
  | succ fuel ih => intro x3 x4 hF; exact w_X1_fittingBits_34 K hQ ih hF
def F_X1_fittingBits_0  (x1 : Int32) (v_p2_count : Int32) (v_p2_kind : (Nat → Int32)) (v_p2_no : (Nat → Int32)) (v_p2_yes : (Nat → Int32)) (v_t_setKind : (Nat → Int32)) (v_t_setNo : (Nat → Int32)) (v_t_setYes : (Nat → Int32)) : Option (Int32) := ck_ x1 48 (if (v_t_setKind (Int32.toNatClampNeg x1)) = (-2 : Int32) then (some ((511 : Int32))) else (ck_ x1 48 (if (v_t_setKind (Int32.toNatClampNeg x1)) = (-1 : Int32) then (some ((256 : Int32))) else (F_X1_fittingBits_34L  x1 v_p2_count v_p2_kind v_p2_no v_p2_yes v_t_setKind v_t_setNo v_t_setYes fu_ (0 : Int32) (0 : Int32)))))
set_option maxHeartbeats 4000000 in
theorem w_X1_fittingBits_0 {B : bu_T} {a_p2 a_p2_kind a_p2_yes a_p2_no a_t a_t_how a_t_into a_t_kind a_t_setKind a_t_setYes a_t_setNo a_t_fitting : Nat} {v_p2_count : Int32} {v_p2_missingRows : Int32} {v_p2_kind : (Nat → Int32)} {v_p2_no : (Nat → Int32)} {v_p2_yes : (Nat → Int32)} {v_t_count : Int32} {v_t_touched : Int32} {v_t_setKind : (Nat → Int32)} {v_t_setNo : (Nat → Int32)} {v_t_setYes : (Nat → Int32)} {r : Int32}  (K : cx B cX1_fittingBits "SoundDesk$Laws" rm_X1_fittingBits 5) (hQ : rt B cX1_fittingBits 5 (some .int) rm_X1_fittingBits (some (.int r)) (fun x => x = (W_X1_fittingBits (bu_E B) a_p2 a_p2_kind a_p2_yes a_p2_no a_t a_t_how a_t_into a_t_kind a_t_setKind a_t_setYes a_t_setNo a_t_fitting v_p2_count v_p2_missingRows v_p2_kind v_p2_no v_p2_yes v_t_count v_t_touched v_t_setKind v_t_setNo v_t_setYes))) {x1 : Int32} (hF : F_X1_fittingBits_0  x1 v_p2_count v_p2_kind v_p2_no v_p2_yes v_t_setKind v_t_setNo v_t_setYes = some (r)) : gg B 5 0 0 0 [(0, .ref a_t), (1, .int x1), (2, .ref a_p2)] [] (W_X1_fittingBits (bu_E B) a_p2 a_p2_kind a_p2_yes a_p2_no a_t a_t_how a_t_into a_t_kind a_t_setKind a_t_setYes a_t_setNo a_t_fitting v_p2_count v_p2_missingRows v_p2_kind v_p2_no v_p2_yes v_t_count v_t_touched v_t_setKind v_t_setNo v_t_setYes) := by
  unfold F_X1_fittingBits_0 at hF
  refine gg_aload_n (pc := 0) K 0 dX1_fittingBits_0 rfl rfl ?_
  refine gg_get (pc := 1) K 4 5 i_X1 rfl rfl (by decide) q_1_78 rfl dX1_fittingBits_1 ?_
  refine gg_iload_n (pc := 4) K 1 dX1_fittingBits_4 rfl rfl ?_
  refine gg_iald (pc := 5) K 5 rfl dX1_fittingBits_5 hF (fun hF => ?_)
  refine gg_bipush (v := (-2 : Int32)) (pc := 6) K dX1_fittingBits_6 (by decide) ?_
  refine gg_icmp_ne (pc := 8) K 15 dX1_fittingBits_8 rfl hF (fun c7 hF => ?_) (fun c7 hF => ?_)
  · refine gg_aload_n (pc := 15) K 0 dX1_fittingBits_15 rfl rfl ?_
    refine gg_get (pc := 16) K 4 5 i_X1 rfl rfl (by decide) q_1_78 rfl dX1_fittingBits_16 ?_
    refine gg_iload_n (pc := 19) K 1 dX1_fittingBits_19 rfl rfl ?_
    refine gg_iald (pc := 20) K 5 rfl dX1_fittingBits_20 hF (fun hF => ?_)
    refine gg_iconst (v := (-1 : Int32)) (pc := 21) K dX1_fittingBits_21 (by decide) ?_
    refine gg_icmp_ne (pc := 22) K 29 dX1_fittingBits_22 rfl hF (fun c8 hF => ?_) (fun c8 hF => ?_)
    · refine gg_iconst (v := (0 : Int32)) (pc := 29) K dX1_fittingBits_29 (by decide) ?_
      refine gg_istore_n (pc := 30) (lv' := [(0, .ref a_t), (1, .int x1), (2, .ref a_p2), (3, .int (0 : Int32))]) K [1, 2, 3, 0] dX1_fittingBits_30 rfl (by decide) rfl ?_
      refine gg_iconst (v := (0 : Int32)) (pc := 31) K dX1_fittingBits_31 (by decide) ?_
      refine gg_istore (pc := 32) (lv' := [(0, .ref a_t), (1, .int x1), (2, .ref a_p2), (3, .int (0 : Int32)), (4, .int (0 : Int32))]) K [1, 2, 3, 4, 0] dX1_fittingBits_32 (by decide) rfl ?_
      exact w_X1_fittingBits_34L K hQ  _ (0 : Int32) (0 : Int32) hF
    · refine gg_sipush (v := (256 : Int32)) (pc := 25) K dX1_fittingBits_25 (by decide) ?_
      cases hF
      exact (hQ _ _ _ rfl).2.1 _ _ rfl rfl rfl dX1_fittingBits_28
  · refine gg_sipush (v := (511 : Int32)) (pc := 11) K dX1_fittingBits_11 (by decide) ?_
    cases hF
    exact (hQ _ _ _ rfl).2.1 _ _ rfl rfl rfl dX1_fittingBits_14
def F_X1_fittingBits (x1 : Int32) (v_p2_count : Int32) (v_p2_kind : (Nat → Int32)) (v_p2_no : (Nat → Int32)) (v_p2_yes : (Nat → Int32)) (v_t_setKind : (Nat → Int32)) (v_t_setNo : (Nat → Int32)) (v_t_setYes : (Nat → Int32)) : Option (Int32) := F_X1_fittingBits_0 x1 v_p2_count v_p2_kind v_p2_no v_p2_yes v_t_setKind v_t_setNo v_t_setYes
theorem n_X1_fittingBits : yX1_fittingBits.cls = "SoundDesk$Laws" ∧ yX1_fittingBits.cls ≠ "java/lang/invoke/MethodHandle" ∧ yX1_fittingBits.cls ≠ "java/lang/invoke/VarHandle" ∧ (parseMethodDescriptor yX1_fittingBits.desc).map (fun d => d.parameters.length) = some 2 := by decide +kernel
theorem c_X1_fittingBits (l : Launch) (E : en_T) (a_p2 a_p2_kind a_p2_yes a_p2_no a_t a_t_how a_t_into a_t_kind a_t_setKind a_t_setYes a_t_setNo a_t_fitting : Nat) (x1 : Int32) (v_p2_count : Int32) (v_p2_missingRows : Int32) (v_p2_kind : (Nat → Int32)) (v_p2_no : (Nat → Int32)) (v_p2_yes : (Nat → Int32)) (v_t_count : Int32) (v_t_touched : Int32) (v_t_setKind : (Nat → Int32)) (v_t_setNo : (Nat → Int32)) (v_t_setYes : (Nat → Int32)) {r : Int32}  (hF : F_X1_fittingBits x1 v_p2_count v_p2_kind v_p2_no v_p2_yes v_t_setKind v_t_setNo v_t_setYes = some (r)) : ct l yX1_fittingBits cX1_fittingBits 5 (some .int) rm_X1_fittingBits E [.ref a_t, .int x1, .ref a_p2] (W_X1_fittingBits E a_p2 a_p2_kind a_p2_yes a_p2_no a_t a_t_how a_t_into a_t_kind a_t_setKind a_t_setYes a_t_setNo a_t_fitting v_p2_count v_p2_missingRows v_p2_kind v_p2_no v_p2_yes v_t_count v_t_touched v_t_setKind v_t_setNo v_t_setYes) (some (.int r)) (fun x => x = (W_X1_fittingBits E a_p2 a_p2_kind a_p2_yes a_p2_no a_t a_t_how a_t_into a_t_kind a_t_setKind a_t_setYes a_t_setNo a_t_fitting v_p2_count v_p2_missingRows v_p2_kind v_p2_no v_p2_yes v_t_count v_t_touched v_t_setKind v_t_setNo v_t_setYes)) := by
  refine ct_of (by decide +kernel) (Nat.le_of_ble_eq_true rfl) (fun B hl hE _ K hQ => ?_)
  subst hl; subst hE
  refine gg_sub (lv' := [(0, .ref a_t), (1, .int x1), (2, .ref a_p2)]) [0, 1, 2] rfl ?_
  exact w_X1_fittingBits_0 K hQ hF
theorem dX1_define_0 : decode cX1_define 0 = .ok (.aload_n 0, 1) := by decide +kernel
theorem dX1_define_1 : decode cX1_define 1 = .ok (.getfield 28, 3) := by decide +kernel
theorem dX1_define_4 : decode cX1_define 4 = .ok (.iload_n 1, 1) := by decide +kernel
theorem dX1_define_5 : decode cX1_define 5 = .ok (.iload_n 2, 1) := by decide +kernel
theorem dX1_define_6 : decode cX1_define 6 = .ok (.iastore, 1) := by decide +kernel
theorem dX1_define_7 : decode cX1_define 7 = .ok (.aload_n 0, 1) := by decide +kernel
theorem dX1_define_8 : decode cX1_define 8 = .ok (.getfield 31, 3) := by decide +kernel
theorem dX1_define_11 : decode cX1_define 11 = .ok (.iload_n 1, 1) := by decide +kernel
theorem dX1_define_12 : decode cX1_define 12 = .ok (.iload_n 3, 1) := by decide +kernel
theorem dX1_define_13 : decode cX1_define 13 = .ok (.iastore, 1) := by decide +kernel
theorem dX1_define_14 : decode cX1_define 14 = .ok (.aload_n 0, 1) := by decide +kernel
theorem dX1_define_15 : decode cX1_define 15 = .ok (.getfield 34, 3) := by decide +kernel
theorem dX1_define_18 : decode cX1_define 18 = .ok (.iload_n 1, 1) := by decide +kernel
theorem dX1_define_19 : decode cX1_define 19 = .ok (.iload 4, 2) := by decide +kernel
theorem dX1_define_21 : decode cX1_define 21 = .ok (.iastore, 1) := by decide +kernel
theorem dX1_define_22 : decode cX1_define 22 = .ok (.aload_n 0, 1) := by decide +kernel
theorem dX1_define_23 : decode cX1_define 23 = .ok (.getfield 37, 3) := by decide +kernel
theorem dX1_define_26 : decode cX1_define 26 = .ok (.iload_n 1, 1) := by decide +kernel
theorem dX1_define_27 : decode cX1_define 27 = .ok (.aload_n 0, 1) := by decide +kernel
theorem dX1_define_28 : decode cX1_define 28 = .ok (.iload_n 1, 1) := by decide +kernel
theorem dX1_define_29 : decode cX1_define 29 = .ok (.aload 5, 2) := by decide +kernel
theorem dX1_define_31 : decode cX1_define 31 = .ok (.invokevirtual 63, 3) := by decide +kernel
theorem dX1_define_34 : decode cX1_define 34 = .ok (.iastore, 1) := by decide +kernel
theorem dX1_define_35 : decode cX1_define 35 = .ok (.return_, 1) := by decide +kernel
def rm_X1_define : Room := { frames := 3, cells := 0, slots := 0, locals := 71 }
def W_X1_define (E : en_T) (a_p5 a_p5_kind a_p5_yes a_p5_no a_t a_t_how a_t_into a_t_kind a_t_setKind a_t_setYes a_t_setNo a_t_fitting : Nat) (v_p5_count : Int32) (v_p5_missingRows : Int32) (v_p5_kind : (Nat → Int32)) (v_p5_no : (Nat → Int32)) (v_p5_yes : (Nat → Int32)) (v_t_count : Int32) (v_t_touched : Int32) (v_t_fitting : (Nat → Int32)) (v_t_setKind : (Nat → Int32)) (v_t_setNo : (Nat → Int32)) (v_t_setYes : (Nat → Int32)) : va_W := [(a_p5, .inr (5, [.int v_p5_count, .int v_p5_missingRows, .ref a_p5_kind, .ref a_p5_yes, .ref a_p5_no])), (a_p5_kind, .inl (en_I E, 8, .inl v_p5_kind)), (a_p5_no, .inl (en_I E, 8, .inl v_p5_no)), (a_p5_yes, .inl (en_I E, 8, .inl v_p5_yes)), (a_t, .inr (1, [.int v_t_count, .int v_t_touched, .ref a_t_how, .ref a_t_into, .ref a_t_kind, .ref a_t_setKind, .ref a_t_setYes, .ref a_t_setNo, .ref a_t_fitting])), (a_t_fitting, .inl (en_I E, 48, .inl v_t_fitting)), (a_t_setKind, .inl (en_I E, 48, .inl v_t_setKind)), (a_t_setNo, .inl (en_I E, 48, .inl v_t_setNo)), (a_t_setYes, .inl (en_I E, 48, .inl v_t_setYes))]
def F_X1_define_0  (x1 : Int32) (x2 : Int32) (x3 : Int32) (x4 : Int32) (v_p5_count : Int32) (v_p5_kind : (Nat → Int32)) (v_p5_no : (Nat → Int32)) (v_p5_yes : (Nat → Int32)) (v_t_fitting : (Nat → Int32)) (v_t_setKind : (Nat → Int32)) (v_t_setNo : (Nat → Int32)) (v_t_setYes : (Nat → Int32)) : Option ((Nat → Int32) × (Nat → Int32) × (Nat → Int32) × (Nat → Int32)) := ck_ x1 48 (lt_ (upd v_t_setKind (Int32.toNatClampNeg x1) x2) (fun f1 => ck_ x1 48 (lt_ (upd v_t_setYes (Int32.toNatClampNeg x1) x3) (fun f2 => ck_ x1 48 (lt_ (upd v_t_setNo (Int32.toNatClampNeg x1) x4) (fun f3 => bn1_ (F_X1_fittingBits x1 v_p5_count v_p5_kind v_p5_no v_p5_yes f1 f3 f2) (fun y4 => ck_ x1 48 (lt_ (upd v_t_fitting (Int32.toNatClampNeg x1) y4) (fun f6 => some (f6, f1, f3, f2))))))))))
set_option maxHeartbeats 4000000 in
theorem w_X1_define_0 {B : bu_T} {a_p5 a_p5_kind a_p5_yes a_p5_no a_t a_t_how a_t_into a_t_kind a_t_setKind a_t_setYes a_t_setNo a_t_fitting : Nat} {v_p5_count : Int32} {v_p5_missingRows : Int32} {v_p5_kind : (Nat → Int32)} {v_p5_no : (Nat → Int32)} {v_p5_yes : (Nat → Int32)} {v_t_count : Int32} {v_t_touched : Int32} {v_t_fitting : (Nat → Int32)} {v_t_setKind : (Nat → Int32)} {v_t_setNo : (Nat → Int32)} {v_t_setYes : (Nat → Int32)} {o_t_fitting : (Nat → Int32)} {o_t_setKind : (Nat → Int32)} {o_t_setNo : (Nat → Int32)} {o_t_setYes : (Nat → Int32)} (K : cx B cX1_define "SoundDesk$Laws" rm_X1_define 6) (hQ : rt B cX1_define 6 none rm_X1_define none (fun x => x = (W_X1_define (bu_E B) a_p5 a_p5_kind a_p5_yes a_p5_no a_t a_t_how a_t_into a_t_kind a_t_setKind a_t_setYes a_t_setNo a_t_fitting v_p5_count v_p5_missingRows v_p5_kind v_p5_no v_p5_yes v_t_count v_t_touched o_t_fitting o_t_setKind o_t_setNo o_t_setYes))) {x1 : Int32} {x2 : Int32} {x3 : Int32} {x4 : Int32} (hF : F_X1_define_0  x1 x2 x3 x4 v_p5_count v_p5_kind v_p5_no v_p5_yes v_t_fitting v_t_setKind v_t_setNo v_t_setYes = some (o_t_fitting, o_t_setKind, o_t_setNo, o_t_setYes)) : gg B 6 0 0 0 [(0, .ref a_t), (1, .int x1), (2, .int x2), (3, .int x3), (4, .int x4), (5, .ref a_p5)] [] (W_X1_define (bu_E B) a_p5 a_p5_kind a_p5_yes a_p5_no a_t a_t_how a_t_into a_t_kind a_t_setKind a_t_setYes a_t_setNo a_t_fitting v_p5_count v_p5_missingRows v_p5_kind v_p5_no v_p5_yes v_t_count v_t_touched v_t_fitting v_t_setKind v_t_setNo v_t_setYes) := by
  unfold F_X1_define_0 at hF
  refine gg_aload_n (pc := 0) K 0 dX1_define_0 rfl rfl ?_
  refine gg_get (pc := 1) K 4 5 i_X1 rfl rfl (by decide) q_1_78 rfl dX1_define_1 ?_
  refine gg_iload_n (pc := 4) K 1 dX1_define_4 rfl rfl ?_
  refine gg_iload_n (pc := 5) K 2 dX1_define_5 rfl rfl ?_
  refine gg_iast (pc := 6) (wf := fun zz => (W_X1_define (bu_E B) a_p5 a_p5_kind a_p5_yes a_p5_no a_t a_t_how a_t_into a_t_kind a_t_setKind a_t_setYes a_t_setNo a_t_fitting v_p5_count v_p5_missingRows v_p5_kind v_p5_no v_p5_yes v_t_count v_t_touched v_t_fitting zz v_t_setNo v_t_setYes)) K 6 rfl dX1_define_6 hF (fun _ => rfl) (fun f1 ef1 hF => ?_)
  refine gg_aload_n (pc := 7) K 0 dX1_define_7 rfl rfl ?_
  refine gg_get (pc := 8) K 4 6 i_X1 rfl rfl (by decide) q_1_79 rfl dX1_define_8 ?_
  refine gg_iload_n (pc := 11) K 1 dX1_define_11 rfl rfl ?_
  refine gg_iload_n (pc := 12) K 3 dX1_define_12 rfl rfl ?_
  refine gg_iast (pc := 13) (wf := fun zz => (W_X1_define (bu_E B) a_p5 a_p5_kind a_p5_yes a_p5_no a_t a_t_how a_t_into a_t_kind a_t_setKind a_t_setYes a_t_setNo a_t_fitting v_p5_count v_p5_missingRows v_p5_kind v_p5_no v_p5_yes v_t_count v_t_touched v_t_fitting f1 v_t_setNo zz)) K 8 rfl dX1_define_13 hF (fun _ => rfl) (fun f2 ef2 hF => ?_)
  refine gg_aload_n (pc := 14) K 0 dX1_define_14 rfl rfl ?_
  refine gg_get (pc := 15) K 4 7 i_X1 rfl rfl (by decide) q_1_80 rfl dX1_define_15 ?_
  refine gg_iload_n (pc := 18) K 1 dX1_define_18 rfl rfl ?_
  refine gg_iload (pc := 19) K 4 dX1_define_19 rfl ?_
  refine gg_iast (pc := 21) (wf := fun zz => (W_X1_define (bu_E B) a_p5 a_p5_kind a_p5_yes a_p5_no a_t a_t_how a_t_into a_t_kind a_t_setKind a_t_setYes a_t_setNo a_t_fitting v_p5_count v_p5_missingRows v_p5_kind v_p5_no v_p5_yes v_t_count v_t_touched v_t_fitting f1 zz f2)) K 7 rfl dX1_define_21 hF (fun _ => rfl) (fun f3 ef3 hF => ?_)
  refine gg_aload_n (pc := 22) K 0 dX1_define_22 rfl rfl ?_
  refine gg_get (pc := 23) K 4 8 i_X1 rfl rfl (by decide) q_1_81 rfl dX1_define_23 ?_
  refine gg_iload_n (pc := 26) K 1 dX1_define_26 rfl rfl ?_
  refine gg_aload_n (pc := 27) K 0 dX1_define_27 rfl rfl ?_
  refine gg_iload_n (pc := 28) K 1 dX1_define_28 rfl rfl ?_
  refine gg_aload (pc := 29) K 5 dX1_define_29 rfl ?_
  obtain ⟨y4, hc5, hF⟩ := bn1_some hF
  refine gg_dV (pc := 31) (st' := [.int y4, .int x1, .ref a_t_fitting]) (rest := [.int x1, .ref a_t_fitting]) (w' := (W_X1_define (bu_E B) a_p5 a_p5_kind a_p5_yes a_p5_no a_t a_t_how a_t_into a_t_kind a_t_setKind a_t_setYes a_t_setNo a_t_fitting v_p5_count v_p5_missingRows v_p5_kind v_p5_no v_p5_yes v_t_count v_t_touched v_t_fitting f1 f3 f2)) K (c_X1_fittingBits (bu_l B) (bu_E B) a_p5 a_p5_kind a_p5_yes a_p5_no a_t a_t_how a_t_into a_t_kind a_t_setKind a_t_setYes a_t_setNo a_t_fitting x1 v_p5_count v_p5_missingRows v_p5_kind v_p5_no v_p5_yes v_t_count v_t_touched f1 f3 f2 hc5) ⟨rfl, rfl⟩ q_2_86 q_2_88 qs_1 q_1_5 q_2_89 n_X1_fittingBits ⟨(Nat.le_of_ble_eq_true rfl), (Nat.le_of_ble_eq_true rfl)⟩ (ci := 1) rfl 4 rfl [0, 1, 2, 3, 4, 6, 7, 8] [true, true, true, true, true, false, true, true, true] rfl rfl rfl rfl rfl rfl (by decide) rfl rfl rfl ⟨Nat.zero_le _, Nat.zero_le _⟩ (Nat.le_of_ble_eq_true rfl) dX1_define_31 ?_
  refine gg_iast (pc := 34) (wf := fun zz => (W_X1_define (bu_E B) a_p5 a_p5_kind a_p5_yes a_p5_no a_t a_t_how a_t_into a_t_kind a_t_setKind a_t_setYes a_t_setNo a_t_fitting v_p5_count v_p5_missingRows v_p5_kind v_p5_no v_p5_yes v_t_count v_t_touched zz f1 f3 f2)) K 5 rfl dX1_define_34 hF (fun _ => rfl) (fun f6 ef6 hF => ?_)
  cases hF
  exact (hQ _ _ _ rfl).1 rfl rfl dX1_define_35
def F_X1_define (x1 : Int32) (x2 : Int32) (x3 : Int32) (x4 : Int32) (v_p5_count : Int32) (v_p5_kind : (Nat → Int32)) (v_p5_no : (Nat → Int32)) (v_p5_yes : (Nat → Int32)) (v_t_fitting : (Nat → Int32)) (v_t_setKind : (Nat → Int32)) (v_t_setNo : (Nat → Int32)) (v_t_setYes : (Nat → Int32)) : Option ((Nat → Int32) × (Nat → Int32) × (Nat → Int32) × (Nat → Int32)) := F_X1_define_0 x1 x2 x3 x4 v_p5_count v_p5_kind v_p5_no v_p5_yes v_t_fitting v_t_setKind v_t_setNo v_t_setYes
theorem n_X1_define : yX1_define.cls = "SoundDesk$Laws" ∧ yX1_define.cls ≠ "java/lang/invoke/MethodHandle" ∧ yX1_define.cls ≠ "java/lang/invoke/VarHandle" ∧ (parseMethodDescriptor yX1_define.desc).map (fun d => d.parameters.length) = some 5 := by decide +kernel
theorem c_X1_define (l : Launch) (E : en_T) (a_p5 a_p5_kind a_p5_yes a_p5_no a_t a_t_how a_t_into a_t_kind a_t_setKind a_t_setYes a_t_setNo a_t_fitting : Nat) (x1 : Int32) (x2 : Int32) (x3 : Int32) (x4 : Int32) (v_p5_count : Int32) (v_p5_missingRows : Int32) (v_p5_kind : (Nat → Int32)) (v_p5_no : (Nat → Int32)) (v_p5_yes : (Nat → Int32)) (v_t_count : Int32) (v_t_touched : Int32) (v_t_fitting : (Nat → Int32)) (v_t_setKind : (Nat → Int32)) (v_t_setNo : (Nat → Int32)) (v_t_setYes : (Nat → Int32)) {o_t_fitting : (Nat → Int32)} {o_t_setKind : (Nat → Int32)} {o_t_setNo : (Nat → Int32)} {o_t_setYes : (Nat → Int32)} (hF : F_X1_define x1 x2 x3 x4 v_p5_count v_p5_kind v_p5_no v_p5_yes v_t_fitting v_t_setKind v_t_setNo v_t_setYes = some (o_t_fitting, o_t_setKind, o_t_setNo, o_t_setYes)) : ct l yX1_define cX1_define 6 none rm_X1_define E [.ref a_t, .int x1, .int x2, .int x3, .int x4, .ref a_p5] (W_X1_define E a_p5 a_p5_kind a_p5_yes a_p5_no a_t a_t_how a_t_into a_t_kind a_t_setKind a_t_setYes a_t_setNo a_t_fitting v_p5_count v_p5_missingRows v_p5_kind v_p5_no v_p5_yes v_t_count v_t_touched v_t_fitting v_t_setKind v_t_setNo v_t_setYes) none (fun x => x = (W_X1_define E a_p5 a_p5_kind a_p5_yes a_p5_no a_t a_t_how a_t_into a_t_kind a_t_setKind a_t_setYes a_t_setNo a_t_fitting v_p5_count v_p5_missingRows v_p5_kind v_p5_no v_p5_yes v_t_count v_t_touched o_t_fitting o_t_setKind o_t_setNo o_t_setYes)) := by
  refine ct_of (by decide +kernel) (Nat.le_of_ble_eq_true rfl) (fun B hl hE _ K hQ => ?_)
  subst hl; subst hE
  refine gg_sub (lv' := [(0, .ref a_t), (1, .int x1), (2, .int x2), (3, .int x3), (4, .int x4), (5, .ref a_p5)]) [0, 1, 2, 3, 4, 5] rfl ?_
  exact w_X1_define_0 K hQ hF
theorem dX1_add_0 : decode cX1_add 0 = .ok (.aload_n 0, 1) := by decide +kernel
theorem dX1_add_1 : decode cX1_add 1 = .ok (.getfield 11, 3) := by decide +kernel
theorem dX1_add_4 : decode cX1_add 4 = .ok (.istore_n 3, 1) := by decide +kernel
theorem dX1_add_5 : decode cX1_add 5 = .ok (.aload_n 0, 1) := by decide +kernel
theorem dX1_add_6 : decode cX1_add 6 = .ok (.getfield 25, 3) := by decide +kernel
theorem dX1_add_9 : decode cX1_add 9 = .ok (.iload_n 3, 1) := by decide +kernel
theorem dX1_add_10 : decode cX1_add 10 = .ok (.iload_n 1, 1) := by decide +kernel
theorem dX1_add_11 : decode cX1_add 11 = .ok (.iastore, 1) := by decide +kernel
theorem dX1_add_12 : decode cX1_add 12 = .ok (.aload_n 0, 1) := by decide +kernel
theorem dX1_add_13 : decode cX1_add 13 = .ok (.getfield 18, 3) := by decide +kernel
theorem dX1_add_16 : decode cX1_add 16 = .ok (.iload_n 3, 1) := by decide +kernel
theorem dX1_add_17 : decode cX1_add 17 = .ok (.iconst 1, 1) := by decide +kernel
theorem dX1_add_18 : decode cX1_add 18 = .ok (.iastore, 1) := by decide +kernel
theorem dX1_add_19 : decode cX1_add 19 = .ok (.aload_n 0, 1) := by decide +kernel
theorem dX1_add_20 : decode cX1_add 20 = .ok (.getfield 22, 3) := by decide +kernel
theorem dX1_add_23 : decode cX1_add 23 = .ok (.iload_n 3, 1) := by decide +kernel
theorem dX1_add_24 : decode cX1_add 24 = .ok (.iconst 0, 1) := by decide +kernel
theorem dX1_add_25 : decode cX1_add 25 = .ok (.iastore, 1) := by decide +kernel
theorem dX1_add_26 : decode cX1_add 26 = .ok (.aload_n 0, 1) := by decide +kernel
theorem dX1_add_27 : decode cX1_add 27 = .ok (.iload_n 3, 1) := by decide +kernel
theorem dX1_add_28 : decode cX1_add 28 = .ok (.iconst 0, 1) := by decide +kernel
theorem dX1_add_29 : decode cX1_add 29 = .ok (.invokestatic 55, 3) := by decide +kernel
theorem dX1_add_32 : decode cX1_add 32 = .ok (.iconst 0, 1) := by decide +kernel
theorem dX1_add_33 : decode cX1_add 33 = .ok (.iconst 0, 1) := by decide +kernel
theorem dX1_add_34 : decode cX1_add 34 = .ok (.iconst 0, 1) := by decide +kernel
theorem dX1_add_35 : decode cX1_add 35 = .ok (.aload_n 2, 1) := by decide +kernel
theorem dX1_add_36 : decode cX1_add 36 = .ok (.invokevirtual 59, 3) := by decide +kernel
theorem dX1_add_39 : decode cX1_add 39 = .ok (.aload_n 0, 1) := by decide +kernel
theorem dX1_add_40 : decode cX1_add 40 = .ok (.iload_n 3, 1) := by decide +kernel
theorem dX1_add_41 : decode cX1_add 41 = .ok (.iconst 1, 1) := by decide +kernel
theorem dX1_add_42 : decode cX1_add 42 = .ok (.invokestatic 55, 3) := by decide +kernel
theorem dX1_add_45 : decode cX1_add 45 = .ok (.bipush (-2), 2) := by decide +kernel
theorem dX1_add_47 : decode cX1_add 47 = .ok (.iconst 0, 1) := by decide +kernel
theorem dX1_add_48 : decode cX1_add 48 = .ok (.iconst 0, 1) := by decide +kernel
theorem dX1_add_49 : decode cX1_add 49 = .ok (.aload_n 2, 1) := by decide +kernel
theorem dX1_add_50 : decode cX1_add 50 = .ok (.invokevirtual 59, 3) := by decide +kernel
theorem dX1_add_53 : decode cX1_add 53 = .ok (.aload_n 0, 1) := by decide +kernel
theorem dX1_add_54 : decode cX1_add 54 = .ok (.iload_n 3, 1) := by decide +kernel
theorem dX1_add_55 : decode cX1_add 55 = .ok (.iconst 2, 1) := by decide +kernel
theorem dX1_add_56 : decode cX1_add 56 = .ok (.invokestatic 55, 3) := by decide +kernel
theorem dX1_add_59 : decode cX1_add 59 = .ok (.bipush (-2), 2) := by decide +kernel
theorem dX1_add_61 : decode cX1_add 61 = .ok (.iconst 0, 1) := by decide +kernel
theorem dX1_add_62 : decode cX1_add 62 = .ok (.iconst 0, 1) := by decide +kernel
theorem dX1_add_63 : decode cX1_add 63 = .ok (.aload_n 2, 1) := by decide +kernel
theorem dX1_add_64 : decode cX1_add 64 = .ok (.invokevirtual 59, 3) := by decide +kernel
theorem dX1_add_67 : decode cX1_add 67 = .ok (.aload_n 0, 1) := by decide +kernel
theorem dX1_add_68 : decode cX1_add 68 = .ok (.dup, 1) := by decide +kernel
theorem dX1_add_69 : decode cX1_add 69 = .ok (.getfield 11, 3) := by decide +kernel
theorem dX1_add_72 : decode cX1_add 72 = .ok (.iconst 1, 1) := by decide +kernel
theorem dX1_add_73 : decode cX1_add 73 = .ok (.iadd, 1) := by decide +kernel
theorem dX1_add_74 : decode cX1_add 74 = .ok (.putfield 11, 3) := by decide +kernel
theorem dX1_add_77 : decode cX1_add 77 = .ok (.iload_n 3, 1) := by decide +kernel
theorem dX1_add_78 : decode cX1_add 78 = .ok (.ireturn, 1) := by decide +kernel
def rm_X1_add : Room := { frames := 4, cells := 0, slots := 0, locals := 96 }
def W_X1_add (E : en_T) (a_p2 a_p2_kind a_p2_yes a_p2_no a_t a_t_how a_t_into a_t_kind a_t_setKind a_t_setYes a_t_setNo a_t_fitting : Nat) (v_p2_count : Int32) (v_p2_missingRows : Int32) (v_p2_kind : (Nat → Int32)) (v_p2_no : (Nat → Int32)) (v_p2_yes : (Nat → Int32)) (v_t_count : Int32) (v_t_touched : Int32) (v_t_fitting : (Nat → Int32)) (v_t_how : (Nat → Int32)) (v_t_into : (Nat → Int32)) (v_t_kind : (Nat → Int32)) (v_t_setKind : (Nat → Int32)) (v_t_setNo : (Nat → Int32)) (v_t_setYes : (Nat → Int32)) : va_W := [(a_p2, .inr (5, [.int v_p2_count, .int v_p2_missingRows, .ref a_p2_kind, .ref a_p2_yes, .ref a_p2_no])), (a_p2_kind, .inl (en_I E, 8, .inl v_p2_kind)), (a_p2_no, .inl (en_I E, 8, .inl v_p2_no)), (a_p2_yes, .inl (en_I E, 8, .inl v_p2_yes)), (a_t, .inr (1, [.int v_t_count, .int v_t_touched, .ref a_t_how, .ref a_t_into, .ref a_t_kind, .ref a_t_setKind, .ref a_t_setYes, .ref a_t_setNo, .ref a_t_fitting])), (a_t_fitting, .inl (en_I E, 48, .inl v_t_fitting)), (a_t_how, .inl (en_I E, 16, .inl v_t_how)), (a_t_into, .inl (en_I E, 16, .inl v_t_into)), (a_t_kind, .inl (en_I E, 16, .inl v_t_kind)), (a_t_setKind, .inl (en_I E, 48, .inl v_t_setKind)), (a_t_setNo, .inl (en_I E, 48, .inl v_t_setNo)), (a_t_setYes, .inl (en_I E, 48, .inl v_t_setYes))]
def F_X1_add_0  (x1 : Int32) (v_p2_count : Int32) (v_p2_kind : (Nat → Int32)) (v_p2_no : (Nat → Int32)) (v_p2_yes : (Nat → Int32)) (v_t_count : Int32) (v_t_fitting : (Nat → Int32)) (v_t_how : (Nat → Int32)) (v_t_into : (Nat → Int32)) (v_t_kind : (Nat → Int32)) (v_t_setKind : (Nat → Int32)) (v_t_setNo : (Nat → Int32)) (v_t_setYes : (Nat → Int32)) : Option (Int32 × Int32 × (Nat → Int32) × (Nat → Int32) × (Nat → Int32) × (Nat → Int32) × (Nat → Int32) × (Nat → Int32) × (Nat → Int32)) := ck_ v_t_count 16 (lt_ (upd v_t_kind (Int32.toNatClampNeg v_t_count) x1) (fun f1 => ck_ v_t_count 16 (lt_ (upd v_t_how (Int32.toNatClampNeg v_t_count) (1 : Int32)) (fun f2 => ck_ v_t_count 16 (lt_ (upd v_t_into (Int32.toNatClampNeg v_t_count) (0 : Int32)) (fun f3 => bn1_ (F_X1_setPlace v_t_count (0 : Int32)) (fun y4 => bn4_ (F_X1_define y4 (0 : Int32) (0 : Int32) (0 : Int32) v_p2_count v_p2_kind v_p2_no v_p2_yes v_t_fitting v_t_setKind v_t_setNo v_t_setYes) (fun o6 o7 o8 o9 => bn1_ (F_X1_setPlace v_t_count (1 : Int32)) (fun y11 => bn4_ (F_X1_define y11 (-2 : Int32) (0 : Int32) (0 : Int32) v_p2_count v_p2_kind v_p2_no v_p2_yes o6 o7 o8 o9) (fun o13 o14 o15 o16 => bn1_ (F_X1_setPlace v_t_count (2 : Int32)) (fun y18 => bn4_ (F_X1_define y18 (-2 : Int32) (0 : Int32) (0 : Int32) v_p2_count v_p2_kind v_p2_no v_p2_yes o13 o14 o15 o16) (fun o20 o21 o22 o23 => lt_ (v_t_count + (1 : Int32)) (fun y25 => some (v_t_count, y25, o20, f2, f3, f1, o21, o22, o23))))))))))))))
set_option maxHeartbeats 4000000 in
theorem w_X1_add_0 {B : bu_T} {a_p2 a_p2_kind a_p2_yes a_p2_no a_t a_t_how a_t_into a_t_kind a_t_setKind a_t_setYes a_t_setNo a_t_fitting : Nat} {v_p2_count : Int32} {v_p2_missingRows : Int32} {v_p2_kind : (Nat → Int32)} {v_p2_no : (Nat → Int32)} {v_p2_yes : (Nat → Int32)} {v_t_count : Int32} {v_t_touched : Int32} {v_t_fitting : (Nat → Int32)} {v_t_how : (Nat → Int32)} {v_t_into : (Nat → Int32)} {v_t_kind : (Nat → Int32)} {v_t_setKind : (Nat → Int32)} {v_t_setNo : (Nat → Int32)} {v_t_setYes : (Nat → Int32)} {r : Int32} {o_t_count : Int32} {o_t_fitting : (Nat → Int32)} {o_t_how : (Nat → Int32)} {o_t_into : (Nat → Int32)} {o_t_kind : (Nat → Int32)} {o_t_setKind : (Nat → Int32)} {o_t_setNo : (Nat → Int32)} {o_t_setYes : (Nat → Int32)} (K : cx B cX1_add "SoundDesk$Laws" rm_X1_add 4) (hQ : rt B cX1_add 4 (some .int) rm_X1_add (some (.int r)) (fun x => x = (W_X1_add (bu_E B) a_p2 a_p2_kind a_p2_yes a_p2_no a_t a_t_how a_t_into a_t_kind a_t_setKind a_t_setYes a_t_setNo a_t_fitting v_p2_count v_p2_missingRows v_p2_kind v_p2_no v_p2_yes o_t_count v_t_touched o_t_fitting o_t_how o_t_into o_t_kind o_t_setKind o_t_setNo o_t_setYes))) {x1 : Int32} (hF : F_X1_add_0  x1 v_p2_count v_p2_kind v_p2_no v_p2_yes v_t_count v_t_fitting v_t_how v_t_into v_t_kind v_t_setKind v_t_setNo v_t_setYes = some (r, o_t_count, o_t_fitting, o_t_how, o_t_into, o_t_kind, o_t_setKind, o_t_setNo, o_t_setYes)) : gg B 4 0 0 0 [(0, .ref a_t), (1, .int x1), (2, .ref a_p2)] [] (W_X1_add (bu_E B) a_p2 a_p2_kind a_p2_yes a_p2_no a_t a_t_how a_t_into a_t_kind a_t_setKind a_t_setYes a_t_setNo a_t_fitting v_p2_count v_p2_missingRows v_p2_kind v_p2_no v_p2_yes v_t_count v_t_touched v_t_fitting v_t_how v_t_into v_t_kind v_t_setKind v_t_setNo v_t_setYes) := by
  unfold F_X1_add_0 at hF
  refine gg_aload_n (pc := 0) K 0 dX1_add_0 rfl rfl ?_
  refine gg_get (pc := 1) K 4 0 i_X1 rfl rfl (by decide) q_1_69 rfl dX1_add_1 ?_
  refine gg_istore_n (pc := 4) (lv' := [(0, .ref a_t), (1, .int x1), (2, .ref a_p2), (3, .int v_t_count)]) K [1, 2, 3, 0] dX1_add_4 rfl (by decide) rfl ?_
  refine gg_aload_n (pc := 5) K 0 dX1_add_5 rfl rfl ?_
  refine gg_get (pc := 6) K 4 4 i_X1 rfl rfl (by decide) q_1_77 rfl dX1_add_6 ?_
  refine gg_iload_n (pc := 9) K 3 dX1_add_9 rfl rfl ?_
  refine gg_iload_n (pc := 10) K 1 dX1_add_10 rfl rfl ?_
  refine gg_iast (pc := 11) (wf := fun zz => (W_X1_add (bu_E B) a_p2 a_p2_kind a_p2_yes a_p2_no a_t a_t_how a_t_into a_t_kind a_t_setKind a_t_setYes a_t_setNo a_t_fitting v_p2_count v_p2_missingRows v_p2_kind v_p2_no v_p2_yes v_t_count v_t_touched v_t_fitting v_t_how v_t_into zz v_t_setKind v_t_setNo v_t_setYes)) K 8 rfl dX1_add_11 hF (fun _ => rfl) (fun f1 ef1 hF => ?_)
  refine gg_aload_n (pc := 12) K 0 dX1_add_12 rfl rfl ?_
  refine gg_get (pc := 13) K 4 2 i_X1 rfl rfl (by decide) q_1_73 rfl dX1_add_13 ?_
  refine gg_iload_n (pc := 16) K 3 dX1_add_16 rfl rfl ?_
  refine gg_iconst (v := (1 : Int32)) (pc := 17) K dX1_add_17 (by decide) ?_
  refine gg_iast (pc := 18) (wf := fun zz => (W_X1_add (bu_E B) a_p2 a_p2_kind a_p2_yes a_p2_no a_t a_t_how a_t_into a_t_kind a_t_setKind a_t_setYes a_t_setNo a_t_fitting v_p2_count v_p2_missingRows v_p2_kind v_p2_no v_p2_yes v_t_count v_t_touched v_t_fitting zz v_t_into f1 v_t_setKind v_t_setNo v_t_setYes)) K 6 rfl dX1_add_18 hF (fun _ => rfl) (fun f2 ef2 hF => ?_)
  refine gg_aload_n (pc := 19) K 0 dX1_add_19 rfl rfl ?_
  refine gg_get (pc := 20) K 4 3 i_X1 rfl rfl (by decide) q_1_75 rfl dX1_add_20 ?_
  refine gg_iload_n (pc := 23) K 3 dX1_add_23 rfl rfl ?_
  refine gg_iconst (v := (0 : Int32)) (pc := 24) K dX1_add_24 (by decide) ?_
  refine gg_iast (pc := 25) (wf := fun zz => (W_X1_add (bu_E B) a_p2 a_p2_kind a_p2_yes a_p2_no a_t a_t_how a_t_into a_t_kind a_t_setKind a_t_setYes a_t_setNo a_t_fitting v_p2_count v_p2_missingRows v_p2_kind v_p2_no v_p2_yes v_t_count v_t_touched v_t_fitting f2 zz f1 v_t_setKind v_t_setNo v_t_setYes)) K 7 rfl dX1_add_25 hF (fun _ => rfl) (fun f3 ef3 hF => ?_)
  refine gg_aload_n (pc := 26) K 0 dX1_add_26 rfl rfl ?_
  refine gg_iload_n (pc := 27) K 3 dX1_add_27 rfl rfl ?_
  refine gg_iconst (v := (0 : Int32)) (pc := 28) K dX1_add_28 (by decide) ?_
  obtain ⟨y4, hc5, hF⟩ := bn1_some hF
  refine gg_dS (pc := 29) (st' := [.int y4, .ref a_t]) (rest := [.ref a_t]) (w' := (W_X1_add (bu_E B) a_p2 a_p2_kind a_p2_yes a_p2_no a_t a_t_how a_t_into a_t_kind a_t_setKind a_t_setYes a_t_setNo a_t_fitting v_p2_count v_p2_missingRows v_p2_kind v_p2_no v_p2_yes v_t_count v_t_touched v_t_fitting f2 f3 f1 v_t_setKind v_t_setNo v_t_setYes)) K (c_X1_setPlace (bu_l B) (bu_E B) v_t_count (0 : Int32) hc5) ⟨rfl, rfl⟩ q_2_130 q_2_131 q_1_5 q_2_132 n_X1_setPlace ⟨(Nat.le_of_ble_eq_true rfl), (Nat.le_of_ble_eq_true rfl)⟩ [] [false, false, false, false, false, false, false, false, false, false, false, false] rfl rfl rfl rfl rfl rfl (by decide) rfl rfl rfl ⟨Nat.zero_le _, Nat.zero_le _⟩ (Nat.le_of_ble_eq_true rfl) dX1_add_29 ?_
  refine gg_iconst (v := (0 : Int32)) (pc := 32) K dX1_add_32 (by decide) ?_
  refine gg_iconst (v := (0 : Int32)) (pc := 33) K dX1_add_33 (by decide) ?_
  refine gg_iconst (v := (0 : Int32)) (pc := 34) K dX1_add_34 (by decide) ?_
  refine gg_aload_n (pc := 35) K 2 dX1_add_35 rfl rfl ?_
  obtain ⟨o6, o7, o8, o9, hc10, hF⟩ := bn4_some hF
  refine gg_dV (pc := 36) (st' := []) (rest := []) (w' := (W_X1_add (bu_E B) a_p2 a_p2_kind a_p2_yes a_p2_no a_t a_t_how a_t_into a_t_kind a_t_setKind a_t_setYes a_t_setNo a_t_fitting v_p2_count v_p2_missingRows v_p2_kind v_p2_no v_p2_yes v_t_count v_t_touched o6 f2 f3 f1 o7 o8 o9)) K (c_X1_define (bu_l B) (bu_E B) a_p2 a_p2_kind a_p2_yes a_p2_no a_t a_t_how a_t_into a_t_kind a_t_setKind a_t_setYes a_t_setNo a_t_fitting y4 (0 : Int32) (0 : Int32) (0 : Int32) v_p2_count v_p2_missingRows v_p2_kind v_p2_no v_p2_yes v_t_count v_t_touched v_t_fitting v_t_setKind v_t_setNo v_t_setYes hc10) ⟨rfl, rfl⟩ q_2_133 q_2_134 q_2_135 q_1_5 q_2_136 n_X1_define ⟨(Nat.le_of_ble_eq_true rfl), (Nat.le_of_ble_eq_true rfl)⟩ (ci := 1) rfl 4 rfl [0, 1, 2, 3, 4, 5, 9, 10, 11] [true, true, true, true, true, true, false, false, false, true, true, true] rfl rfl rfl rfl rfl rfl (by decide) rfl rfl rfl ⟨Nat.zero_le _, Nat.zero_le _⟩ (Nat.le_of_ble_eq_true rfl) dX1_add_36 ?_
  refine gg_aload_n (pc := 39) K 0 dX1_add_39 rfl rfl ?_
  refine gg_iload_n (pc := 40) K 3 dX1_add_40 rfl rfl ?_
  refine gg_iconst (v := (1 : Int32)) (pc := 41) K dX1_add_41 (by decide) ?_
  obtain ⟨y11, hc12, hF⟩ := bn1_some hF
  refine gg_dS (pc := 42) (st' := [.int y11, .ref a_t]) (rest := [.ref a_t]) (w' := (W_X1_add (bu_E B) a_p2 a_p2_kind a_p2_yes a_p2_no a_t a_t_how a_t_into a_t_kind a_t_setKind a_t_setYes a_t_setNo a_t_fitting v_p2_count v_p2_missingRows v_p2_kind v_p2_no v_p2_yes v_t_count v_t_touched o6 f2 f3 f1 o7 o8 o9)) K (c_X1_setPlace (bu_l B) (bu_E B) v_t_count (1 : Int32) hc12) ⟨rfl, rfl⟩ q_2_130 q_2_131 q_1_5 q_2_132 n_X1_setPlace ⟨(Nat.le_of_ble_eq_true rfl), (Nat.le_of_ble_eq_true rfl)⟩ [] [false, false, false, false, false, false, false, false, false, false, false, false] rfl rfl rfl rfl rfl rfl (by decide) rfl rfl rfl ⟨Nat.zero_le _, Nat.zero_le _⟩ (Nat.le_of_ble_eq_true rfl) dX1_add_42 ?_
  refine gg_bipush (v := (-2 : Int32)) (pc := 45) K dX1_add_45 (by decide) ?_
  refine gg_iconst (v := (0 : Int32)) (pc := 47) K dX1_add_47 (by decide) ?_
  refine gg_iconst (v := (0 : Int32)) (pc := 48) K dX1_add_48 (by decide) ?_
  refine gg_aload_n (pc := 49) K 2 dX1_add_49 rfl rfl ?_
  obtain ⟨o13, o14, o15, o16, hc17, hF⟩ := bn4_some hF
  refine gg_dV (pc := 50) (st' := []) (rest := []) (w' := (W_X1_add (bu_E B) a_p2 a_p2_kind a_p2_yes a_p2_no a_t a_t_how a_t_into a_t_kind a_t_setKind a_t_setYes a_t_setNo a_t_fitting v_p2_count v_p2_missingRows v_p2_kind v_p2_no v_p2_yes v_t_count v_t_touched o13 f2 f3 f1 o14 o15 o16)) K (c_X1_define (bu_l B) (bu_E B) a_p2 a_p2_kind a_p2_yes a_p2_no a_t a_t_how a_t_into a_t_kind a_t_setKind a_t_setYes a_t_setNo a_t_fitting y11 (-2 : Int32) (0 : Int32) (0 : Int32) v_p2_count v_p2_missingRows v_p2_kind v_p2_no v_p2_yes v_t_count v_t_touched o6 o7 o8 o9 hc17) ⟨rfl, rfl⟩ q_2_133 q_2_134 q_2_135 q_1_5 q_2_136 n_X1_define ⟨(Nat.le_of_ble_eq_true rfl), (Nat.le_of_ble_eq_true rfl)⟩ (ci := 1) rfl 4 rfl [0, 1, 2, 3, 4, 5, 9, 10, 11] [true, true, true, true, true, true, false, false, false, true, true, true] rfl rfl rfl rfl rfl rfl (by decide) rfl rfl rfl ⟨Nat.zero_le _, Nat.zero_le _⟩ (Nat.le_of_ble_eq_true rfl) dX1_add_50 ?_
  refine gg_aload_n (pc := 53) K 0 dX1_add_53 rfl rfl ?_
  refine gg_iload_n (pc := 54) K 3 dX1_add_54 rfl rfl ?_
  refine gg_iconst (v := (2 : Int32)) (pc := 55) K dX1_add_55 (by decide) ?_
  obtain ⟨y18, hc19, hF⟩ := bn1_some hF
  refine gg_dS (pc := 56) (st' := [.int y18, .ref a_t]) (rest := [.ref a_t]) (w' := (W_X1_add (bu_E B) a_p2 a_p2_kind a_p2_yes a_p2_no a_t a_t_how a_t_into a_t_kind a_t_setKind a_t_setYes a_t_setNo a_t_fitting v_p2_count v_p2_missingRows v_p2_kind v_p2_no v_p2_yes v_t_count v_t_touched o13 f2 f3 f1 o14 o15 o16)) K (c_X1_setPlace (bu_l B) (bu_E B) v_t_count (2 : Int32) hc19) ⟨rfl, rfl⟩ q_2_130 q_2_131 q_1_5 q_2_132 n_X1_setPlace ⟨(Nat.le_of_ble_eq_true rfl), (Nat.le_of_ble_eq_true rfl)⟩ [] [false, false, false, false, false, false, false, false, false, false, false, false] rfl rfl rfl rfl rfl rfl (by decide) rfl rfl rfl ⟨Nat.zero_le _, Nat.zero_le _⟩ (Nat.le_of_ble_eq_true rfl) dX1_add_56 ?_
  refine gg_bipush (v := (-2 : Int32)) (pc := 59) K dX1_add_59 (by decide) ?_
  refine gg_iconst (v := (0 : Int32)) (pc := 61) K dX1_add_61 (by decide) ?_
  refine gg_iconst (v := (0 : Int32)) (pc := 62) K dX1_add_62 (by decide) ?_
  refine gg_aload_n (pc := 63) K 2 dX1_add_63 rfl rfl ?_
  obtain ⟨o20, o21, o22, o23, hc24, hF⟩ := bn4_some hF
  refine gg_dV (pc := 64) (st' := []) (rest := []) (w' := (W_X1_add (bu_E B) a_p2 a_p2_kind a_p2_yes a_p2_no a_t a_t_how a_t_into a_t_kind a_t_setKind a_t_setYes a_t_setNo a_t_fitting v_p2_count v_p2_missingRows v_p2_kind v_p2_no v_p2_yes v_t_count v_t_touched o20 f2 f3 f1 o21 o22 o23)) K (c_X1_define (bu_l B) (bu_E B) a_p2 a_p2_kind a_p2_yes a_p2_no a_t a_t_how a_t_into a_t_kind a_t_setKind a_t_setYes a_t_setNo a_t_fitting y18 (-2 : Int32) (0 : Int32) (0 : Int32) v_p2_count v_p2_missingRows v_p2_kind v_p2_no v_p2_yes v_t_count v_t_touched o13 o14 o15 o16 hc24) ⟨rfl, rfl⟩ q_2_133 q_2_134 q_2_135 q_1_5 q_2_136 n_X1_define ⟨(Nat.le_of_ble_eq_true rfl), (Nat.le_of_ble_eq_true rfl)⟩ (ci := 1) rfl 4 rfl [0, 1, 2, 3, 4, 5, 9, 10, 11] [true, true, true, true, true, true, false, false, false, true, true, true] rfl rfl rfl rfl rfl rfl (by decide) rfl rfl rfl ⟨Nat.zero_le _, Nat.zero_le _⟩ (Nat.le_of_ble_eq_true rfl) dX1_add_64 ?_
  refine gg_aload_n (pc := 67) K 0 dX1_add_67 rfl rfl ?_
  refine gg_dup (pc := 68) K dX1_add_68 rfl ?_
  refine gg_get (pc := 69) K 4 0 i_X1 rfl rfl (by decide) q_1_69 rfl dX1_add_69 ?_
  refine gg_iconst (v := (1 : Int32)) (pc := 72) K dX1_add_72 (by decide) ?_
  refine gg_iadd (pc := 73) K dX1_add_73 ?_
  refine gg_puti (pc := 74) (wf := fun zz => (W_X1_add (bu_E B) a_p2 a_p2_kind a_p2_yes a_p2_no a_t a_t_how a_t_into a_t_kind a_t_setKind a_t_setYes a_t_setNo a_t_fitting v_p2_count v_p2_missingRows v_p2_kind v_p2_no v_p2_yes zz v_t_touched o20 f2 f3 f1 o21 o22 o23)) K 4 0 i_X1 tyX1_ok nmX1 rfl rfl (by decide) q_1_69 rfl (by decide +kernel) (Nat.le_of_ble_eq_true rfl) dX1_add_74 hF (fun _ => rfl) (fun y25 ey25 hF => ?_)
  refine gg_iload_n (pc := 77) K 3 dX1_add_77 rfl rfl ?_
  cases hF
  exact (hQ _ _ _ rfl).2.1 _ _ rfl rfl rfl dX1_add_78
def F_X1_add (x1 : Int32) (v_p2_count : Int32) (v_p2_kind : (Nat → Int32)) (v_p2_no : (Nat → Int32)) (v_p2_yes : (Nat → Int32)) (v_t_count : Int32) (v_t_fitting : (Nat → Int32)) (v_t_how : (Nat → Int32)) (v_t_into : (Nat → Int32)) (v_t_kind : (Nat → Int32)) (v_t_setKind : (Nat → Int32)) (v_t_setNo : (Nat → Int32)) (v_t_setYes : (Nat → Int32)) : Option (Int32 × Int32 × (Nat → Int32) × (Nat → Int32) × (Nat → Int32) × (Nat → Int32) × (Nat → Int32) × (Nat → Int32) × (Nat → Int32)) := F_X1_add_0 x1 v_p2_count v_p2_kind v_p2_no v_p2_yes v_t_count v_t_fitting v_t_how v_t_into v_t_kind v_t_setKind v_t_setNo v_t_setYes
theorem n_X1_add : yX1_add.cls = "SoundDesk$Laws" ∧ yX1_add.cls ≠ "java/lang/invoke/MethodHandle" ∧ yX1_add.cls ≠ "java/lang/invoke/VarHandle" ∧ (parseMethodDescriptor yX1_add.desc).map (fun d => d.parameters.length) = some 2 := by decide +kernel
theorem c_X1_add (l : Launch) (E : en_T) (a_p2 a_p2_kind a_p2_yes a_p2_no a_t a_t_how a_t_into a_t_kind a_t_setKind a_t_setYes a_t_setNo a_t_fitting : Nat) (x1 : Int32) (v_p2_count : Int32) (v_p2_missingRows : Int32) (v_p2_kind : (Nat → Int32)) (v_p2_no : (Nat → Int32)) (v_p2_yes : (Nat → Int32)) (v_t_count : Int32) (v_t_touched : Int32) (v_t_fitting : (Nat → Int32)) (v_t_how : (Nat → Int32)) (v_t_into : (Nat → Int32)) (v_t_kind : (Nat → Int32)) (v_t_setKind : (Nat → Int32)) (v_t_setNo : (Nat → Int32)) (v_t_setYes : (Nat → Int32)) {r : Int32} {o_t_count : Int32} {o_t_fitting : (Nat → Int32)} {o_t_how : (Nat → Int32)} {o_t_into : (Nat → Int32)} {o_t_kind : (Nat → Int32)} {o_t_setKind : (Nat → Int32)} {o_t_setNo : (Nat → Int32)} {o_t_setYes : (Nat → Int32)} (hF : F_X1_add x1 v_p2_count v_p2_kind v_p2_no v_p2_yes v_t_count v_t_fitting v_t_how v_t_into v_t_kind v_t_setKind v_t_setNo v_t_setYes = some (r, o_t_count, o_t_fitting, o_t_how, o_t_into, o_t_kind, o_t_setKind, o_t_setNo, o_t_setYes)) : ct l yX1_add cX1_add 4 (some .int) rm_X1_add E [.ref a_t, .int x1, .ref a_p2] (W_X1_add E a_p2 a_p2_kind a_p2_yes a_p2_no a_t a_t_how a_t_into a_t_kind a_t_setKind a_t_setYes a_t_setNo a_t_fitting v_p2_count v_p2_missingRows v_p2_kind v_p2_no v_p2_yes v_t_count v_t_touched v_t_fitting v_t_how v_t_into v_t_kind v_t_setKind v_t_setNo v_t_setYes) (some (.int r)) (fun x => x = (W_X1_add E a_p2 a_p2_kind a_p2_yes a_p2_no a_t a_t_how a_t_into a_t_kind a_t_setKind a_t_setYes a_t_setNo a_t_fitting v_p2_count v_p2_missingRows v_p2_kind v_p2_no v_p2_yes o_t_count v_t_touched o_t_fitting o_t_how o_t_into o_t_kind o_t_setKind o_t_setNo o_t_setYes)) := by
  refine ct_of (by decide +kernel) (Nat.le_of_ble_eq_true rfl) (fun B hl hE _ K hQ => ?_)
  subst hl; subst hE
  refine gg_sub (lv' := [(0, .ref a_t), (1, .int x1), (2, .ref a_p2)]) [0, 1, 2] rfl ?_
  exact w_X1_add_0 K hQ hF
theorem dX1_fitAll_0 : decode cX1_fitAll 0 = .ok (.iconst 0, 1) := by decide +kernel
theorem dX1_fitAll_1 : decode cX1_fitAll 1 = .ok (.istore_n 2, 1) := by decide +kernel
theorem dX1_fitAll_2 : decode cX1_fitAll 2 = .ok (.iload_n 2, 1) := by decide +kernel
theorem dX1_fitAll_3 : decode cX1_fitAll 3 = .ok (.aload_n 0, 1) := by decide +kernel
theorem dX1_fitAll_4 : decode cX1_fitAll 4 = .ok (.getfield 11, 3) := by decide +kernel
theorem dX1_fitAll_7 : decode cX1_fitAll 7 = .ok (.iconst 3, 1) := by decide +kernel
theorem dX1_fitAll_8 : decode cX1_fitAll 8 = .ok (.imul, 1) := by decide +kernel
theorem dX1_fitAll_9 : decode cX1_fitAll 9 = .ok (.if_icmp .ge 21, 3) := by decide +kernel
theorem dX1_fitAll_12 : decode cX1_fitAll 12 = .ok (.aload_n 0, 1) := by decide +kernel
theorem dX1_fitAll_13 : decode cX1_fitAll 13 = .ok (.getfield 37, 3) := by decide +kernel
theorem dX1_fitAll_16 : decode cX1_fitAll 16 = .ok (.iload_n 2, 1) := by decide +kernel
theorem dX1_fitAll_17 : decode cX1_fitAll 17 = .ok (.aload_n 0, 1) := by decide +kernel
theorem dX1_fitAll_18 : decode cX1_fitAll 18 = .ok (.iload_n 2, 1) := by decide +kernel
theorem dX1_fitAll_19 : decode cX1_fitAll 19 = .ok (.aload_n 1, 1) := by decide +kernel
theorem dX1_fitAll_20 : decode cX1_fitAll 20 = .ok (.invokevirtual 63, 3) := by decide +kernel
theorem dX1_fitAll_23 : decode cX1_fitAll 23 = .ok (.iastore, 1) := by decide +kernel
theorem dX1_fitAll_24 : decode cX1_fitAll 24 = .ok (.iinc 2 1, 3) := by decide +kernel
theorem dX1_fitAll_27 : decode cX1_fitAll 27 = .ok (.goto (-25), 3) := by decide +kernel
theorem dX1_fitAll_30 : decode cX1_fitAll 30 = .ok (.return_, 1) := by decide +kernel
def rm_X1_fitAll : Room := { frames := 3, cells := 0, slots := 0, locals := 71 }
def W_X1_fitAll (E : en_T) (a_p1 a_p1_kind a_p1_yes a_p1_no a_t a_t_how a_t_into a_t_kind a_t_setKind a_t_setYes a_t_setNo a_t_fitting : Nat) (v_p1_count : Int32) (v_p1_missingRows : Int32) (v_p1_kind : (Nat → Int32)) (v_p1_no : (Nat → Int32)) (v_p1_yes : (Nat → Int32)) (v_t_count : Int32) (v_t_touched : Int32) (v_t_fitting : (Nat → Int32)) (v_t_setKind : (Nat → Int32)) (v_t_setNo : (Nat → Int32)) (v_t_setYes : (Nat → Int32)) : va_W := [(a_p1, .inr (5, [.int v_p1_count, .int v_p1_missingRows, .ref a_p1_kind, .ref a_p1_yes, .ref a_p1_no])), (a_p1_kind, .inl (en_I E, 8, .inl v_p1_kind)), (a_p1_no, .inl (en_I E, 8, .inl v_p1_no)), (a_p1_yes, .inl (en_I E, 8, .inl v_p1_yes)), (a_t, .inr (1, [.int v_t_count, .int v_t_touched, .ref a_t_how, .ref a_t_into, .ref a_t_kind, .ref a_t_setKind, .ref a_t_setYes, .ref a_t_setNo, .ref a_t_fitting])), (a_t_fitting, .inl (en_I E, 48, .inl v_t_fitting)), (a_t_setKind, .inl (en_I E, 48, .inl v_t_setKind)), (a_t_setNo, .inl (en_I E, 48, .inl v_t_setNo)), (a_t_setYes, .inl (en_I E, 48, .inl v_t_setYes))]
def F_X1_fitAll_2 (k2 : Int32 → (Nat → Int32) → Option ((Nat → Int32))) (x2 : Int32) (v_p1_count : Int32) (v_p1_kind : (Nat → Int32)) (v_p1_no : (Nat → Int32)) (v_p1_yes : (Nat → Int32)) (v_t_count : Int32) (v_t_fitting : (Nat → Int32)) (v_t_setKind : (Nat → Int32)) (v_t_setNo : (Nat → Int32)) (v_t_setYes : (Nat → Int32)) : Option ((Nat → Int32)) := if (v_t_count * (3 : Int32)) ≤ x2 then (some (v_t_fitting)) else (bn1_ (F_X1_fittingBits x2 v_p1_count v_p1_kind v_p1_no v_p1_yes v_t_setKind v_t_setNo v_t_setYes) (fun y2 => ck_ x2 48 (lt_ (upd v_t_fitting (Int32.toNatClampNeg x2) y2) (fun f4 => lt_ (x2 + (1 : Int32)) (fun y5 => k2 y5 f4)))))
set_option maxHeartbeats 4000000 in
theorem w_X1_fitAll_2 {B : bu_T} {a_p1 a_p1_kind a_p1_yes a_p1_no a_t a_t_how a_t_into a_t_kind a_t_setKind a_t_setYes a_t_setNo a_t_fitting : Nat} {v_p1_count : Int32} {v_p1_missingRows : Int32} {v_p1_kind : (Nat → Int32)} {v_p1_no : (Nat → Int32)} {v_p1_yes : (Nat → Int32)} {v_t_count : Int32} {v_t_touched : Int32} {v_t_fitting : (Nat → Int32)} {v_t_setKind : (Nat → Int32)} {v_t_setNo : (Nat → Int32)} {v_t_setYes : (Nat → Int32)} {o_t_fitting : (Nat → Int32)} (K : cx B cX1_fitAll "SoundDesk$Laws" rm_X1_fitAll 3) (hQ : rt B cX1_fitAll 3 none rm_X1_fitAll none (fun x => x = (W_X1_fitAll (bu_E B) a_p1 a_p1_kind a_p1_yes a_p1_no a_t a_t_how a_t_into a_t_kind a_t_setKind a_t_setYes a_t_setNo a_t_fitting v_p1_count v_p1_missingRows v_p1_kind v_p1_no v_p1_yes v_t_count v_t_touched o_t_fitting v_t_setKind v_t_setNo v_t_setYes))) {x2 : Int32} {k2 : Int32 → (Nat → Int32) → Option ((Nat → Int32))} (hk2 : ∀ (x2 : Int32) (v_t_fitting : (Nat → Int32)), k2 x2 v_t_fitting = some (o_t_fitting) → gg B 3 0 0 2 [(0, .ref a_t), (1, .ref a_p1), (2, .int x2)] [] (W_X1_fitAll (bu_E B) a_p1 a_p1_kind a_p1_yes a_p1_no a_t a_t_how a_t_into a_t_kind a_t_setKind a_t_setYes a_t_setNo a_t_fitting v_p1_count v_p1_missingRows v_p1_kind v_p1_no v_p1_yes v_t_count v_t_touched v_t_fitting v_t_setKind v_t_setNo v_t_setYes)) (hF : F_X1_fitAll_2 k2 x2 v_p1_count v_p1_kind v_p1_no v_p1_yes v_t_count v_t_fitting v_t_setKind v_t_setNo v_t_setYes = some (o_t_fitting)) : gg B 3 0 0 2 [(0, .ref a_t), (1, .ref a_p1), (2, .int x2)] [] (W_X1_fitAll (bu_E B) a_p1 a_p1_kind a_p1_yes a_p1_no a_t a_t_how a_t_into a_t_kind a_t_setKind a_t_setYes a_t_setNo a_t_fitting v_p1_count v_p1_missingRows v_p1_kind v_p1_no v_p1_yes v_t_count v_t_touched v_t_fitting v_t_setKind v_t_setNo v_t_setYes) := by
  unfold F_X1_fitAll_2 at hF
  refine gg_iload_n (pc := 2) K 2 dX1_fitAll_2 rfl rfl ?_
  refine gg_aload_n (pc := 3) K 0 dX1_fitAll_3 rfl rfl ?_
  refine gg_get (pc := 4) K 4 0 i_X1 rfl rfl (by decide) q_1_69 rfl dX1_fitAll_4 ?_
  refine gg_iconst (v := (3 : Int32)) (pc := 7) K dX1_fitAll_7 (by decide) ?_
  refine gg_imul (pc := 8) K dX1_fitAll_8 ?_
  refine gg_icmp_ge (pc := 9) K 30 dX1_fitAll_9 rfl hF (fun c1 hF => ?_) (fun c1 hF => ?_)
  · cases hF
    exact (hQ _ _ _ rfl).1 rfl rfl dX1_fitAll_30
  · refine gg_aload_n (pc := 12) K 0 dX1_fitAll_12 rfl rfl ?_
    refine gg_get (pc := 13) K 4 8 i_X1 rfl rfl (by decide) q_1_81 rfl dX1_fitAll_13 ?_
    refine gg_iload_n (pc := 16) K 2 dX1_fitAll_16 rfl rfl ?_
    refine gg_aload_n (pc := 17) K 0 dX1_fitAll_17 rfl rfl ?_
    refine gg_iload_n (pc := 18) K 2 dX1_fitAll_18 rfl rfl ?_
    refine gg_aload_n (pc := 19) K 1 dX1_fitAll_19 rfl rfl ?_
    obtain ⟨y2, hc3, hF⟩ := bn1_some hF
    refine gg_dV (pc := 20) (st' := [.int y2, .int x2, .ref a_t_fitting]) (rest := [.int x2, .ref a_t_fitting]) (w' := (W_X1_fitAll (bu_E B) a_p1 a_p1_kind a_p1_yes a_p1_no a_t a_t_how a_t_into a_t_kind a_t_setKind a_t_setYes a_t_setNo a_t_fitting v_p1_count v_p1_missingRows v_p1_kind v_p1_no v_p1_yes v_t_count v_t_touched v_t_fitting v_t_setKind v_t_setNo v_t_setYes)) K (c_X1_fittingBits (bu_l B) (bu_E B) a_p1 a_p1_kind a_p1_yes a_p1_no a_t a_t_how a_t_into a_t_kind a_t_setKind a_t_setYes a_t_setNo a_t_fitting x2 v_p1_count v_p1_missingRows v_p1_kind v_p1_no v_p1_yes v_t_count v_t_touched v_t_setKind v_t_setNo v_t_setYes hc3) ⟨rfl, rfl⟩ q_2_86 q_2_88 qs_1 q_1_5 q_2_89 n_X1_fittingBits ⟨(Nat.le_of_ble_eq_true rfl), (Nat.le_of_ble_eq_true rfl)⟩ (ci := 1) rfl 4 rfl [0, 1, 2, 3, 4, 6, 7, 8] [true, true, true, true, true, false, true, true, true] rfl rfl rfl rfl rfl rfl (by decide) rfl rfl rfl ⟨Nat.zero_le _, Nat.zero_le _⟩ (Nat.le_of_ble_eq_true rfl) dX1_fitAll_20 ?_
    refine gg_iast (pc := 23) (wf := fun zz => (W_X1_fitAll (bu_E B) a_p1 a_p1_kind a_p1_yes a_p1_no a_t a_t_how a_t_into a_t_kind a_t_setKind a_t_setYes a_t_setNo a_t_fitting v_p1_count v_p1_missingRows v_p1_kind v_p1_no v_p1_yes v_t_count v_t_touched zz v_t_setKind v_t_setNo v_t_setYes)) K 5 rfl dX1_fitAll_23 hF (fun _ => rfl) (fun f4 ef4 hF => ?_)
    refine gg_iinc (pc := 24) (v := (1 : Int32)) (lw := fun zz => [(0, .ref a_t), (1, .ref a_p1), (2, .int zz)]) K 2 [1, 2, 0] dX1_fitAll_24 rfl rfl (by decide) hF (fun _ => rfl) (fun y5 ey5 hF => ?_)
    refine gg_goto (pc := 27) K 2 dX1_fitAll_27 rfl ?_
    exact hk2 y5 f4 hF
def F_X1_fitAll_2L  (v_p1_count : Int32) (v_p1_kind : (Nat → Int32)) (v_p1_no : (Nat → Int32)) (v_p1_yes : (Nat → Int32)) (v_t_count : Int32) (v_t_setKind : (Nat → Int32)) (v_t_setNo : (Nat → Int32)) (v_t_setYes : (Nat → Int32)) (fuel : Nat) (x2 : Int32) (v_t_fitting : (Nat → Int32)) : Option ((Nat → Int32)) := lp2_ (fun k2 x2 v_t_fitting => F_X1_fitAll_2 k2 x2 v_p1_count v_p1_kind v_p1_no v_p1_yes v_t_count v_t_fitting v_t_setKind v_t_setNo v_t_setYes) fuel x2 v_t_fitting
theorem w_X1_fitAll_2L {B : bu_T} {a_p1 a_p1_kind a_p1_yes a_p1_no a_t a_t_how a_t_into a_t_kind a_t_setKind a_t_setYes a_t_setNo a_t_fitting : Nat} {v_p1_count : Int32} {v_p1_missingRows : Int32} {v_p1_kind : (Nat → Int32)} {v_p1_no : (Nat → Int32)} {v_p1_yes : (Nat → Int32)} {v_t_count : Int32} {v_t_touched : Int32} {v_t_setKind : (Nat → Int32)} {v_t_setNo : (Nat → Int32)} {v_t_setYes : (Nat → Int32)} {o_t_fitting : (Nat → Int32)} (K : cx B cX1_fitAll "SoundDesk$Laws" rm_X1_fitAll 3) (hQ : rt B cX1_fitAll 3 none rm_X1_fitAll none (fun x => x = (W_X1_fitAll (bu_E B) a_p1 a_p1_kind a_p1_yes a_p1_no a_t a_t_how a_t_into a_t_kind a_t_setKind a_t_setYes a_t_setNo a_t_fitting v_p1_count v_p1_missingRows v_p1_kind v_p1_no v_p1_yes v_t_count v_t_touched o_t_fitting v_t_setKind v_t_setNo v_t_setYes)))  : ∀ (fuel : Nat) (x2 : Int32) (v_t_fitting : (Nat → Int32)), F_X1_fitAll_2L  v_p1_count v_p1_kind v_p1_no v_p1_yes v_t_count v_t_setKind v_t_setNo v_t_setYes fuel x2 v_t_fitting = some (o_t_fitting) → gg B 3 0 0 2 [(0, .ref a_t), (1, .ref a_p1), (2, .int x2)] [] (W_X1_fitAll (bu_E B) a_p1 a_p1_kind a_p1_yes a_p1_no a_t a_t_how a_t_into a_t_kind a_t_setKind a_t_setYes a_t_setNo a_t_fitting v_p1_count v_p1_missingRows v_p1_kind v_p1_no v_p1_yes v_t_count v_t_touched v_t_fitting v_t_setKind v_t_setNo v_t_setYes) := by
  intro fuel
  induction fuel with
  | zero => intro x2 v_t_fitting hF; exact absurd hF (by intro h; cases h)
  | succ fuel ih => intro x2 v_t_fitting hF; exact w_X1_fitAll_2 K hQ ih hF
def F_X1_fitAll_0  (v_p1_count : Int32) (v_p1_kind : (Nat → Int32)) (v_p1_no : (Nat → Int32)) (v_p1_yes : (Nat → Int32)) (v_t_count : Int32) (v_t_fitting : (Nat → Int32)) (v_t_setKind : (Nat → Int32)) (v_t_setNo : (Nat → Int32)) (v_t_setYes : (Nat → Int32)) : Option ((Nat → Int32)) := F_X1_fitAll_2L  v_p1_count v_p1_kind v_p1_no v_p1_yes v_t_count v_t_setKind v_t_setNo v_t_setYes fu_ (0 : Int32) v_t_fitting
set_option maxHeartbeats 4000000 in
theorem w_X1_fitAll_0 {B : bu_T} {a_p1 a_p1_kind a_p1_yes a_p1_no a_t a_t_how a_t_into a_t_kind a_t_setKind a_t_setYes a_t_setNo a_t_fitting : Nat} {v_p1_count : Int32} {v_p1_missingRows : Int32} {v_p1_kind : (Nat → Int32)} {v_p1_no : (Nat → Int32)} {v_p1_yes : (Nat → Int32)} {v_t_count : Int32} {v_t_touched : Int32} {v_t_fitting : (Nat → Int32)} {v_t_setKind : (Nat → Int32)} {v_t_setNo : (Nat → Int32)} {v_t_setYes : (Nat → Int32)} {o_t_fitting : (Nat → Int32)} (K : cx B cX1_fitAll "SoundDesk$Laws" rm_X1_fitAll 3) (hQ : rt B cX1_fitAll 3 none rm_X1_fitAll none (fun x => x = (W_X1_fitAll (bu_E B) a_p1 a_p1_kind a_p1_yes a_p1_no a_t a_t_how a_t_into a_t_kind a_t_setKind a_t_setYes a_t_setNo a_t_fitting v_p1_count v_p1_missingRows v_p1_kind v_p1_no v_p1_yes v_t_count v_t_touched o_t_fitting v_t_setKind v_t_setNo v_t_setYes)))  (hF : F_X1_fitAll_0  v_p1_count v_p1_kind v_p1_no v_p1_yes v_t_count v_t_fitting v_t_setKind v_t_setNo v_t_setYes = some (o_t_fitting)) : gg B 3 0 0 0 [(0, .ref a_t), (1, .ref a_p1)] [] (W_X1_fitAll (bu_E B) a_p1 a_p1_kind a_p1_yes a_p1_no a_t a_t_how a_t_into a_t_kind a_t_setKind a_t_setYes a_t_setNo a_t_fitting v_p1_count v_p1_missingRows v_p1_kind v_p1_no v_p1_yes v_t_count v_t_touched v_t_fitting v_t_setKind v_t_setNo v_t_setYes) := by
  unfold F_X1_fitAll_0 at hF
  refine gg_iconst (v := (0 : Int32)) (pc := 0) K dX1_fitAll_0 (by decide) ?_
  refine gg_istore_n (pc := 1) (lv' := [(0, .ref a_t), (1, .ref a_p1), (2, .int (0 : Int32))]) K [1, 2, 0] dX1_fitAll_1 rfl (by decide) rfl ?_
  exact w_X1_fitAll_2L K hQ  _ (0 : Int32) v_t_fitting hF
def F_X1_fitAll  (v_p1_count : Int32) (v_p1_kind : (Nat → Int32)) (v_p1_no : (Nat → Int32)) (v_p1_yes : (Nat → Int32)) (v_t_count : Int32) (v_t_fitting : (Nat → Int32)) (v_t_setKind : (Nat → Int32)) (v_t_setNo : (Nat → Int32)) (v_t_setYes : (Nat → Int32)) : Option ((Nat → Int32)) := F_X1_fitAll_0 v_p1_count v_p1_kind v_p1_no v_p1_yes v_t_count v_t_fitting v_t_setKind v_t_setNo v_t_setYes
theorem n_X1_fitAll : yX1_fitAll.cls = "SoundDesk$Laws" ∧ yX1_fitAll.cls ≠ "java/lang/invoke/MethodHandle" ∧ yX1_fitAll.cls ≠ "java/lang/invoke/VarHandle" ∧ (parseMethodDescriptor yX1_fitAll.desc).map (fun d => d.parameters.length) = some 1 := by decide +kernel
theorem c_X1_fitAll (l : Launch) (E : en_T) (a_p1 a_p1_kind a_p1_yes a_p1_no a_t a_t_how a_t_into a_t_kind a_t_setKind a_t_setYes a_t_setNo a_t_fitting : Nat)  (v_p1_count : Int32) (v_p1_missingRows : Int32) (v_p1_kind : (Nat → Int32)) (v_p1_no : (Nat → Int32)) (v_p1_yes : (Nat → Int32)) (v_t_count : Int32) (v_t_touched : Int32) (v_t_fitting : (Nat → Int32)) (v_t_setKind : (Nat → Int32)) (v_t_setNo : (Nat → Int32)) (v_t_setYes : (Nat → Int32)) {o_t_fitting : (Nat → Int32)} (hF : F_X1_fitAll  v_p1_count v_p1_kind v_p1_no v_p1_yes v_t_count v_t_fitting v_t_setKind v_t_setNo v_t_setYes = some (o_t_fitting)) : ct l yX1_fitAll cX1_fitAll 3 none rm_X1_fitAll E [.ref a_t, .ref a_p1] (W_X1_fitAll E a_p1 a_p1_kind a_p1_yes a_p1_no a_t a_t_how a_t_into a_t_kind a_t_setKind a_t_setYes a_t_setNo a_t_fitting v_p1_count v_p1_missingRows v_p1_kind v_p1_no v_p1_yes v_t_count v_t_touched v_t_fitting v_t_setKind v_t_setNo v_t_setYes) none (fun x => x = (W_X1_fitAll E a_p1 a_p1_kind a_p1_yes a_p1_no a_t a_t_how a_t_into a_t_kind a_t_setKind a_t_setYes a_t_setNo a_t_fitting v_p1_count v_p1_missingRows v_p1_kind v_p1_no v_p1_yes v_t_count v_t_touched o_t_fitting v_t_setKind v_t_setNo v_t_setYes)) := by
  refine ct_of (by decide +kernel) (Nat.le_of_ble_eq_true rfl) (fun B hl hE _ K hQ => ?_)
  subst hl; subst hE
  refine gg_sub (lv' := [(0, .ref a_t), (1, .ref a_p1)]) [0, 1] rfl ?_
  exact w_X1_fitAll_0 K hQ hF
