theorem dX4_lineOf_0 : decode cX4_lineOf 0 = .ok (.iconst 0, 1) := by decide +kernel
theorem dX4_lineOf_1 : decode cX4_lineOf 1 = .ok (.istore_n 2, 1) := by decide +kernel
theorem dX4_lineOf_2 : decode cX4_lineOf 2 = .ok (.iload_n 1, 1) := by decide +kernel
theorem dX4_lineOf_3 : decode cX4_lineOf 3 = .ok (.istore_n 3, 1) := by decide +kernel
theorem dX4_lineOf_4 : decode cX4_lineOf 4 = .ok (.iconst 0, 1) := by decide +kernel
theorem dX4_lineOf_5 : decode cX4_lineOf 5 = .ok (.istore 4, 2) := by decide +kernel
theorem dX4_lineOf_7 : decode cX4_lineOf 7 = .ok (.iload 4, 2) := by decide +kernel
theorem dX4_lineOf_9 : decode cX4_lineOf 9 = .ok (.bipush 6, 2) := by decide +kernel
theorem dX4_lineOf_11 : decode cX4_lineOf 11 = .ok (.if_icmp .ge 27, 3) := by decide +kernel
theorem dX4_lineOf_14 : decode cX4_lineOf 14 = .ok (.iload_n 3, 1) := by decide +kernel
theorem dX4_lineOf_15 : decode cX4_lineOf 15 = .ok (.iconst (-1), 1) := by decide +kernel
theorem dX4_lineOf_16 : decode cX4_lineOf 16 = .ok (.if_icmp .eq 22, 3) := by decide +kernel
theorem dX4_lineOf_19 : decode cX4_lineOf 19 = .ok (.iload_n 2, 1) := by decide +kernel
theorem dX4_lineOf_20 : decode cX4_lineOf 20 = .ok (.iconst 1, 1) := by decide +kernel
theorem dX4_lineOf_21 : decode cX4_lineOf 21 = .ok (.iload_n 3, 1) := by decide +kernel
theorem dX4_lineOf_22 : decode cX4_lineOf 22 = .ok (.ishl, 1) := by decide +kernel
theorem dX4_lineOf_23 : decode cX4_lineOf 23 = .ok (.ior, 1) := by decide +kernel
theorem dX4_lineOf_24 : decode cX4_lineOf 24 = .ok (.istore_n 2, 1) := by decide +kernel
theorem dX4_lineOf_25 : decode cX4_lineOf 25 = .ok (.aload_n 0, 1) := by decide +kernel
theorem dX4_lineOf_26 : decode cX4_lineOf 26 = .ok (.getfield 37, 3) := by decide +kernel
theorem dX4_lineOf_29 : decode cX4_lineOf 29 = .ok (.iload_n 3, 1) := by decide +kernel
theorem dX4_lineOf_30 : decode cX4_lineOf 30 = .ok (.iaload, 1) := by decide +kernel
theorem dX4_lineOf_31 : decode cX4_lineOf 31 = .ok (.istore_n 3, 1) := by decide +kernel
theorem dX4_lineOf_32 : decode cX4_lineOf 32 = .ok (.iinc 4 1, 3) := by decide +kernel
theorem dX4_lineOf_35 : decode cX4_lineOf 35 = .ok (.goto (-28), 3) := by decide +kernel
theorem dX4_lineOf_38 : decode cX4_lineOf 38 = .ok (.iload_n 2, 1) := by decide +kernel
theorem dX4_lineOf_39 : decode cX4_lineOf 39 = .ok (.ireturn, 1) := by decide +kernel
def rm_X4_lineOf : Room := { frames := 0, cells := 0, slots := 0, locals := 0 }
def W_X4_lineOf (E : en_T) (a_p0 a_p0_parent a_p0_ownCount a_p0_own : Nat) (v_p0_count : Int32) (v_p0_parent : (Nat → Int32)) : va_W := [(a_p0, .inr (7, [.int v_p0_count, .ref a_p0_parent, .ref a_p0_ownCount, .ref a_p0_own])), (a_p0_parent, .inl (en_I E, 6, .inl v_p0_parent))]
def F_X4_lineOf_7 (k7 : Int32 → Int32 → Int32 → Option (Int32)) (x2 : Int32) (x3 : Int32) (x4 : Int32) (v_p0_parent : (Nat → Int32)) : Option (Int32) := if (6 : Int32) ≤ x4 then (some (x2)) else (if x3 = (-1 : Int32) then (some (x2)) else (lt_ (x2 ||| ((1 : Int32) <<< (x3 &&& 31))) (fun y3 => ck_ x3 6 (lt_ (v_p0_parent (Int32.toNatClampNeg x3)) (fun y4 => lt_ (x4 + (1 : Int32)) (fun y5 => k7 y3 y4 y5))))))
set_option maxHeartbeats 4000000 in
theorem w_X4_lineOf_7 {B : bu_T} {a_p0 a_p0_parent a_p0_ownCount a_p0_own : Nat} {v_p0_count : Int32} {v_p0_parent : (Nat → Int32)} {r : Int32}  (K : cx B cX4_lineOf "SoundDesk$Row" rm_X4_lineOf 5) (hQ : rt B cX4_lineOf 5 (some .int) rm_X4_lineOf (some (.int r)) (fun x => x = (W_X4_lineOf (bu_E B) a_p0 a_p0_parent a_p0_ownCount a_p0_own v_p0_count v_p0_parent))) {x2 : Int32} {x3 : Int32} {x4 : Int32} {k7 : Int32 → Int32 → Int32 → Option (Int32)} (hk7 : ∀ (x2 : Int32) (x3 : Int32) (x4 : Int32), k7 x2 x3 x4 = some (r) → gg B 5 0 0 7 [(0, .ref a_p0), (2, .int x2), (3, .int x3), (4, .int x4)] [] (W_X4_lineOf (bu_E B) a_p0 a_p0_parent a_p0_ownCount a_p0_own v_p0_count v_p0_parent)) (hF : F_X4_lineOf_7 k7 x2 x3 x4 v_p0_parent = some (r)) : gg B 5 0 0 7 [(0, .ref a_p0), (2, .int x2), (3, .int x3), (4, .int x4)] [] (W_X4_lineOf (bu_E B) a_p0 a_p0_parent a_p0_ownCount a_p0_own v_p0_count v_p0_parent) := by
  unfold F_X4_lineOf_7 at hF
  refine gg_iload (pc := 7) K 3 dX4_lineOf_7 rfl ?_
  refine gg_bipush (v := (6 : Int32)) (pc := 9) K dX4_lineOf_9 (by decide) ?_
  refine gg_icmp_ge (pc := 11) K 38 dX4_lineOf_11 rfl hF (fun c1 hF => ?_) (fun c1 hF => ?_)
  · refine gg_iload_n (pc := 38) K 1 dX4_lineOf_38 rfl rfl ?_
    cases hF
    exact (hQ _ _ _ rfl).2.1 _ _ rfl rfl rfl dX4_lineOf_39
  · refine gg_iload_n (pc := 14) K 2 dX4_lineOf_14 rfl rfl ?_
    refine gg_iconst (v := (-1 : Int32)) (pc := 15) K dX4_lineOf_15 (by decide) ?_
    refine gg_icmp_eq (pc := 16) K 38 dX4_lineOf_16 rfl hF (fun c2 hF => ?_) (fun c2 hF => ?_)
    · refine gg_iload_n (pc := 38) K 1 dX4_lineOf_38 rfl rfl ?_
      cases hF
      exact (hQ _ _ _ rfl).2.1 _ _ rfl rfl rfl dX4_lineOf_39
    · refine gg_iload_n (pc := 19) K 1 dX4_lineOf_19 rfl rfl ?_
      refine gg_iconst (v := (1 : Int32)) (pc := 20) K dX4_lineOf_20 (by decide) ?_
      refine gg_iload_n (pc := 21) K 2 dX4_lineOf_21 rfl rfl ?_
      refine gg_ishl (pc := 22) K dX4_lineOf_22 ?_
      refine gg_ior (pc := 23) K dX4_lineOf_23 ?_
      refine gg_topi hF (fun y3 ey3 hF => ?_)
      refine gg_istore_n (pc := 24) (lv' := [(0, .ref a_p0), (2, .int y3), (3, .int x3), (4, .int x4)]) K [1, 0, 2, 3] dX4_lineOf_24 rfl (by decide) rfl ?_
      refine gg_aload_n (pc := 25) K 0 dX4_lineOf_25 rfl rfl ?_
      refine gg_get (pc := 26) K 0 1 i_X7 rfl rfl (by decide) q_1_114 rfl dX4_lineOf_26 ?_
      refine gg_iload_n (pc := 29) K 2 dX4_lineOf_29 rfl rfl ?_
      refine gg_iald (pc := 30) K 1 rfl dX4_lineOf_30 hF (fun hF => ?_)
      refine gg_topi hF (fun y4 ey4 hF => ?_)
      refine gg_istore_n (pc := 31) (lv' := [(0, .ref a_p0), (2, .int y3), (3, .int y4), (4, .int x4)]) K [1, 2, 0, 3] dX4_lineOf_31 rfl (by decide) rfl ?_
      refine gg_iinc (pc := 32) (v := (1 : Int32)) (lw := fun zz => [(0, .ref a_p0), (2, .int y3), (3, .int y4), (4, .int zz)]) K 3 [1, 2, 3, 0] dX4_lineOf_32 rfl rfl (by decide) hF (fun _ => rfl) (fun y5 ey5 hF => ?_)
      refine gg_goto (pc := 35) K 7 dX4_lineOf_35 rfl ?_
      exact hk7 y3 y4 y5 hF
def F_X4_lineOf_7L  (v_p0_parent : (Nat → Int32)) (fuel : Nat) (x2 : Int32) (x3 : Int32) (x4 : Int32) : Option (Int32) := lp3_ (fun k7 x2 x3 x4 => F_X4_lineOf_7 k7 x2 x3 x4 v_p0_parent) fuel x2 x3 x4
theorem w_X4_lineOf_7L {B : bu_T} {a_p0 a_p0_parent a_p0_ownCount a_p0_own : Nat} {v_p0_count : Int32} {v_p0_parent : (Nat → Int32)} {r : Int32}  (K : cx B cX4_lineOf "SoundDesk$Row" rm_X4_lineOf 5) (hQ : rt B cX4_lineOf 5 (some .int) rm_X4_lineOf (some (.int r)) (fun x => x = (W_X4_lineOf (bu_E B) a_p0 a_p0_parent a_p0_ownCount a_p0_own v_p0_count v_p0_parent)))  : ∀ (fuel : Nat) (x2 : Int32) (x3 : Int32) (x4 : Int32), F_X4_lineOf_7L  v_p0_parent fuel x2 x3 x4 = some (r) → gg B 5 0 0 7 [(0, .ref a_p0), (2, .int x2), (3, .int x3), (4, .int x4)] [] (W_X4_lineOf (bu_E B) a_p0 a_p0_parent a_p0_ownCount a_p0_own v_p0_count v_p0_parent) := by
  intro fuel
  induction fuel with
  | zero => intro x2 x3 x4 hF; exact absurd hF (by intro h; cases h)
  | succ fuel ih => intro x2 x3 x4 hF; exact w_X4_lineOf_7 K hQ ih hF
def F_X4_lineOf_0  (x1 : Int32) (v_p0_parent : (Nat → Int32)) : Option (Int32) := F_X4_lineOf_7L  v_p0_parent fu_ (0 : Int32) x1 (0 : Int32)
set_option maxHeartbeats 4000000 in
theorem w_X4_lineOf_0 {B : bu_T} {a_p0 a_p0_parent a_p0_ownCount a_p0_own : Nat} {v_p0_count : Int32} {v_p0_parent : (Nat → Int32)} {r : Int32}  (K : cx B cX4_lineOf "SoundDesk$Row" rm_X4_lineOf 5) (hQ : rt B cX4_lineOf 5 (some .int) rm_X4_lineOf (some (.int r)) (fun x => x = (W_X4_lineOf (bu_E B) a_p0 a_p0_parent a_p0_ownCount a_p0_own v_p0_count v_p0_parent))) {x1 : Int32} (hF : F_X4_lineOf_0  x1 v_p0_parent = some (r)) : gg B 5 0 0 0 [(0, .ref a_p0), (1, .int x1)] [] (W_X4_lineOf (bu_E B) a_p0 a_p0_parent a_p0_ownCount a_p0_own v_p0_count v_p0_parent) := by
  unfold F_X4_lineOf_0 at hF
  refine gg_iconst (v := (0 : Int32)) (pc := 0) K dX4_lineOf_0 (by decide) ?_
  refine gg_istore_n (pc := 1) (lv' := [(0, .ref a_p0), (1, .int x1), (2, .int (0 : Int32))]) K [1, 2, 0] dX4_lineOf_1 rfl (by decide) rfl ?_
  refine gg_iload_n (pc := 2) K 1 dX4_lineOf_2 rfl rfl ?_
  refine gg_istore_n (pc := 3) (lv' := [(0, .ref a_p0), (1, .int x1), (2, .int (0 : Int32)), (3, .int x1)]) K [1, 2, 3, 0] dX4_lineOf_3 rfl (by decide) rfl ?_
  refine gg_iconst (v := (0 : Int32)) (pc := 4) K dX4_lineOf_4 (by decide) ?_
  refine gg_istore (pc := 5) (lv' := [(0, .ref a_p0), (1, .int x1), (2, .int (0 : Int32)), (3, .int x1), (4, .int (0 : Int32))]) K [1, 2, 3, 4, 0] dX4_lineOf_5 (by decide) rfl ?_
  refine gg_sub [0, 2, 3, 4] rfl ?_
  exact w_X4_lineOf_7L K hQ  _ (0 : Int32) x1 (0 : Int32) hF
def F_X4_lineOf (x1 : Int32) (v_p0_parent : (Nat → Int32)) : Option (Int32) := F_X4_lineOf_0 x1 v_p0_parent
theorem n_X4_lineOf : yX4_lineOf.cls ≠ "java/lang/invoke/MethodHandle" ∧ yX4_lineOf.cls ≠ "java/lang/invoke/VarHandle" ∧ (parseMethodDescriptor yX4_lineOf.desc).map (fun d => d.parameters.length) = some 2 := by decide +kernel
theorem c_X4_lineOf (l : Launch) (E : en_T) (a_p0 a_p0_parent a_p0_ownCount a_p0_own : Nat) (x1 : Int32) (v_p0_count : Int32) (v_p0_parent : (Nat → Int32)) {r : Int32}  (hF : F_X4_lineOf x1 v_p0_parent = some (r)) : ct l yX4_lineOf cX4_lineOf 5 (some .int) rm_X4_lineOf E [.ref a_p0, .int x1] (W_X4_lineOf E a_p0 a_p0_parent a_p0_ownCount a_p0_own v_p0_count v_p0_parent) (some (.int r)) (fun x => x = (W_X4_lineOf E a_p0 a_p0_parent a_p0_ownCount a_p0_own v_p0_count v_p0_parent)) := by
  refine ct_of (by decide +kernel) (Nat.le_of_ble_eq_true rfl) (fun B hl hE _ K hQ => ?_)
  subst hl; subst hE
  refine gg_sub (lv' := [(0, .ref a_p0), (1, .int x1)]) [0, 1] rfl ?_
  exact w_X4_lineOf_0 K hQ hF
theorem dX4_fill_0 : decode cX4_fill 0 = .ok (.aload_n 0, 1) := by decide +kernel
theorem dX4_fill_1 : decode cX4_fill 1 = .ok (.iconst 0, 1) := by decide +kernel
theorem dX4_fill_2 : decode cX4_fill 2 = .ok (.putfield 9, 3) := by decide +kernel
theorem dX4_fill_5 : decode cX4_fill 5 = .ok (.aload_n 1, 1) := by decide +kernel
theorem dX4_fill_6 : decode cX4_fill 6 = .ok (.iload_n 2, 1) := by decide +kernel
theorem dX4_fill_7 : decode cX4_fill 7 = .ok (.invokestatic 19, 3) := by decide +kernel
theorem dX4_fill_10 : decode cX4_fill 10 = .ok (.istore_n 3, 1) := by decide +kernel
theorem dX4_fill_11 : decode cX4_fill 11 = .ok (.iconst 0, 1) := by decide +kernel
theorem dX4_fill_12 : decode cX4_fill 12 = .ok (.istore 4, 2) := by decide +kernel
theorem dX4_fill_14 : decode cX4_fill 14 = .ok (.iload 4, 2) := by decide +kernel
theorem dX4_fill_16 : decode cX4_fill 16 = .ok (.aload_n 1, 1) := by decide +kernel
theorem dX4_fill_17 : decode cX4_fill 17 = .ok (.getfield 23, 3) := by decide +kernel
theorem dX4_fill_20 : decode cX4_fill 20 = .ok (.if_icmp .ge 61, 3) := by decide +kernel
theorem dX4_fill_23 : decode cX4_fill 23 = .ok (.iload_n 3, 1) := by decide +kernel
theorem dX4_fill_24 : decode cX4_fill 24 = .ok (.iload 4, 2) := by decide +kernel
theorem dX4_fill_26 : decode cX4_fill 26 = .ok (.ishr, 1) := by decide +kernel
theorem dX4_fill_27 : decode cX4_fill 27 = .ok (.iconst 1, 1) := by decide +kernel
theorem dX4_fill_28 : decode cX4_fill 28 = .ok (.iand, 1) := by decide +kernel
theorem dX4_fill_29 : decode cX4_fill 29 = .ok (.iconst 1, 1) := by decide +kernel
theorem dX4_fill_30 : decode cX4_fill 30 = .ok (.if_icmp .ne 45, 3) := by decide +kernel
theorem dX4_fill_33 : decode cX4_fill 33 = .ok (.aload_n 1, 1) := by decide +kernel
theorem dX4_fill_34 : decode cX4_fill 34 = .ok (.getfield 24, 3) := by decide +kernel
theorem dX4_fill_37 : decode cX4_fill 37 = .ok (.iload 4, 2) := by decide +kernel
theorem dX4_fill_39 : decode cX4_fill 39 = .ok (.aaload, 1) := by decide +kernel
theorem dX4_fill_40 : decode cX4_fill 40 = .ok (.iconst 0, 1) := by decide +kernel
theorem dX4_fill_41 : decode cX4_fill 41 = .ok (.aload_n 0, 1) := by decide +kernel
theorem dX4_fill_42 : decode cX4_fill 42 = .ok (.getfield 15, 3) := by decide +kernel
theorem dX4_fill_45 : decode cX4_fill 45 = .ok (.aload_n 0, 1) := by decide +kernel
theorem dX4_fill_46 : decode cX4_fill 46 = .ok (.getfield 9, 3) := by decide +kernel
theorem dX4_fill_49 : decode cX4_fill 49 = .ok (.aload_n 1, 1) := by decide +kernel
theorem dX4_fill_50 : decode cX4_fill 50 = .ok (.getfield 28, 3) := by decide +kernel
theorem dX4_fill_53 : decode cX4_fill 53 = .ok (.iload 4, 2) := by decide +kernel
theorem dX4_fill_55 : decode cX4_fill 55 = .ok (.iaload, 1) := by decide +kernel
theorem dX4_fill_56 : decode cX4_fill 56 = .ok (.invokestatic 31, 3) := by decide +kernel
theorem dX4_fill_59 : decode cX4_fill 59 = .ok (.aload_n 0, 1) := by decide +kernel
theorem dX4_fill_60 : decode cX4_fill 60 = .ok (.dup, 1) := by decide +kernel
theorem dX4_fill_61 : decode cX4_fill 61 = .ok (.getfield 9, 3) := by decide +kernel
theorem dX4_fill_64 : decode cX4_fill 64 = .ok (.aload_n 1, 1) := by decide +kernel
theorem dX4_fill_65 : decode cX4_fill 65 = .ok (.getfield 28, 3) := by decide +kernel
theorem dX4_fill_68 : decode cX4_fill 68 = .ok (.iload 4, 2) := by decide +kernel
theorem dX4_fill_70 : decode cX4_fill 70 = .ok (.iaload, 1) := by decide +kernel
theorem dX4_fill_71 : decode cX4_fill 71 = .ok (.iadd, 1) := by decide +kernel
theorem dX4_fill_72 : decode cX4_fill 72 = .ok (.putfield 9, 3) := by decide +kernel
theorem dX4_fill_75 : decode cX4_fill 75 = .ok (.iinc 4 1, 3) := by decide +kernel
theorem dX4_fill_78 : decode cX4_fill 78 = .ok (.goto (-64), 3) := by decide +kernel
theorem dX4_fill_81 : decode cX4_fill 81 = .ok (.return_, 1) := by decide +kernel
def rm_X4_fill : Room := { frames := 1, cells := 0, slots := 0, locals := 60 }
def W_X4_fill (E : en_T) (a_p1 a_p1_parent a_p1_ownCount a_p1_own a_t a_t_law : Nat) (r_p1_own : Nat → Nat) (v_p1_count : Int32) (v_p1_own : (Nat → Nat → Int32)) (v_p1_ownCount : (Nat → Int32)) (v_p1_parent : (Nat → Int32)) (v_t_count : Int32) (v_t_law : (Nat → Int32)) : va_W := [(a_p1, .inr (7, [.int v_p1_count, .ref a_p1_parent, .ref a_p1_ownCount, .ref a_p1_own])), (a_p1_own, .inl (en_II E, 6, .inr (.inr (.inr (.inr (go_ 6 r_p1_own)))))), (r_p1_own 0, .inl (en_I E, 6, .inl (v_p1_own 0))), (r_p1_own 1, .inl (en_I E, 6, .inl (v_p1_own 1))), (r_p1_own 2, .inl (en_I E, 6, .inl (v_p1_own 2))), (r_p1_own 3, .inl (en_I E, 6, .inl (v_p1_own 3))), (r_p1_own 4, .inl (en_I E, 6, .inl (v_p1_own 4))), (r_p1_own 5, .inl (en_I E, 6, .inl (v_p1_own 5))), (a_p1_ownCount, .inl (en_I E, 6, .inl v_p1_ownCount)), (a_p1_parent, .inl (en_I E, 6, .inl v_p1_parent)), (a_t, .inr (4, [.int v_t_count, .ref a_t_law])), (a_t_law, .inl (en_I E, 36, .inl v_t_law))]
def F_X4_fill_75 (k14 : Int32 → Int32 → (Nat → Int32) → Option (Int32 × (Nat → Int32))) (x3 : Int32) (x4 : Int32) (v_p1_count : Int32) (v_p1_own : (Nat → Nat → Int32)) (v_p1_ownCount : (Nat → Int32)) (v_t_count : Int32) (v_t_law : (Nat → Int32)) : Option (Int32 × (Nat → Int32)) := lt_ (x4 + (1 : Int32)) (fun y1 => k14 y1 v_t_count v_t_law)
set_option maxHeartbeats 4000000 in
theorem w_X4_fill_75 {B : bu_T} {a_p1 a_p1_parent a_p1_ownCount a_p1_own a_t a_t_law : Nat} {r_p1_own : Nat → Nat} {v_p1_count : Int32} {v_p1_own : (Nat → Nat → Int32)} {v_p1_ownCount : (Nat → Int32)} {v_p1_parent : (Nat → Int32)} {v_t_count : Int32} {v_t_law : (Nat → Int32)} {o_t_count : Int32} {o_t_law : (Nat → Int32)} (K : cx B cX4_fill "SoundDesk$Row" rm_X4_fill 5) (hQ : rt B cX4_fill 5 none rm_X4_fill none (fun x => x = (W_X4_fill (bu_E B) a_p1 a_p1_parent a_p1_ownCount a_p1_own a_t a_t_law r_p1_own v_p1_count v_p1_own v_p1_ownCount v_p1_parent o_t_count o_t_law))) {x3 : Int32} {x4 : Int32} {k14 : Int32 → Int32 → (Nat → Int32) → Option (Int32 × (Nat → Int32))} (hk14 : ∀ (x4 : Int32) (v_t_count : Int32) (v_t_law : (Nat → Int32)), k14 x4 v_t_count v_t_law = some (o_t_count, o_t_law) → gg B 5 0 0 14 [(0, .ref a_t), (1, .ref a_p1), (3, .int x3), (4, .int x4)] [] (W_X4_fill (bu_E B) a_p1 a_p1_parent a_p1_ownCount a_p1_own a_t a_t_law r_p1_own v_p1_count v_p1_own v_p1_ownCount v_p1_parent v_t_count v_t_law)) (hF : F_X4_fill_75 k14 x3 x4 v_p1_count v_p1_own v_p1_ownCount v_t_count v_t_law = some (o_t_count, o_t_law)) : gg B 5 0 0 75 [(0, .ref a_t), (1, .ref a_p1), (3, .int x3), (4, .int x4)] [] (W_X4_fill (bu_E B) a_p1 a_p1_parent a_p1_ownCount a_p1_own a_t a_t_law r_p1_own v_p1_count v_p1_own v_p1_ownCount v_p1_parent v_t_count v_t_law) := by
  unfold F_X4_fill_75 at hF
  refine gg_iinc (pc := 75) (v := (1 : Int32)) (lw := fun zz => [(0, .ref a_t), (1, .ref a_p1), (3, .int x3), (4, .int zz)]) K 3 [1, 2, 3, 0] dX4_fill_75 rfl rfl (by decide) hF (fun _ => rfl) (fun y1 ey1 hF => ?_)
  refine gg_goto (pc := 78) K 14 dX4_fill_78 rfl ?_
  exact hk14 y1 v_t_count v_t_law hF
def F_X4_fill_14 (k14 : Int32 → Int32 → (Nat → Int32) → Option (Int32 × (Nat → Int32))) (x3 : Int32) (x4 : Int32) (v_p1_count : Int32) (v_p1_own : (Nat → Nat → Int32)) (v_p1_ownCount : (Nat → Int32)) (v_t_count : Int32) (v_t_law : (Nat → Int32)) : Option (Int32 × (Nat → Int32)) := if v_p1_count ≤ x4 then (some (v_t_count, v_t_law)) else (if ((x3 >>> (x4 &&& 31)) &&& (1 : Int32)) = (1 : Int32) then (ck_ x4 6 (ck_ x4 6 (cp_ (0 : Int32) v_t_count (v_p1_ownCount (Int32.toNatClampNeg x4)) 6 36 (lt_ (va_cpy (v_p1_own (Int32.toNatClampNeg x4)) v_t_law (Int32.toNatClampNeg (0 : Int32)) (Int32.toNatClampNeg v_t_count) (Int32.toNatClampNeg (v_p1_ownCount (Int32.toNatClampNeg x4)))) (fun f5 => ck_ x4 6 (lt_ (v_t_count + (v_p1_ownCount (Int32.toNatClampNeg x4))) (fun y6 => F_X4_fill_75 k14 x3 x4 v_p1_count v_p1_own v_p1_ownCount y6 f5))))))) else (F_X4_fill_75 k14 x3 x4 v_p1_count v_p1_own v_p1_ownCount v_t_count v_t_law))
set_option maxHeartbeats 4000000 in
theorem w_X4_fill_14 {B : bu_T} {a_p1 a_p1_parent a_p1_ownCount a_p1_own a_t a_t_law : Nat} {r_p1_own : Nat → Nat} {v_p1_count : Int32} {v_p1_own : (Nat → Nat → Int32)} {v_p1_ownCount : (Nat → Int32)} {v_p1_parent : (Nat → Int32)} {v_t_count : Int32} {v_t_law : (Nat → Int32)} {o_t_count : Int32} {o_t_law : (Nat → Int32)} (K : cx B cX4_fill "SoundDesk$Row" rm_X4_fill 5) (hQ : rt B cX4_fill 5 none rm_X4_fill none (fun x => x = (W_X4_fill (bu_E B) a_p1 a_p1_parent a_p1_ownCount a_p1_own a_t a_t_law r_p1_own v_p1_count v_p1_own v_p1_ownCount v_p1_parent o_t_count o_t_law))) {x3 : Int32} {x4 : Int32} {k14 : Int32 → Int32 → (Nat → Int32) → Option (Int32 × (Nat → Int32))} (hk14 : ∀ (x4 : Int32) (v_t_count : Int32) (v_t_law : (Nat → Int32)), k14 x4 v_t_count v_t_law = some (o_t_count, o_t_law) → gg B 5 0 0 14 [(0, .ref a_t), (1, .ref a_p1), (3, .int x3), (4, .int x4)] [] (W_X4_fill (bu_E B) a_p1 a_p1_parent a_p1_ownCount a_p1_own a_t a_t_law r_p1_own v_p1_count v_p1_own v_p1_ownCount v_p1_parent v_t_count v_t_law)) (hF : F_X4_fill_14 k14 x3 x4 v_p1_count v_p1_own v_p1_ownCount v_t_count v_t_law = some (o_t_count, o_t_law)) : gg B 5 0 0 14 [(0, .ref a_t), (1, .ref a_p1), (3, .int x3), (4, .int x4)] [] (W_X4_fill (bu_E B) a_p1 a_p1_parent a_p1_ownCount a_p1_own a_t a_t_law r_p1_own v_p1_count v_p1_own v_p1_ownCount v_p1_parent v_t_count v_t_law) := by
  unfold F_X4_fill_14 at hF
  refine gg_iload (pc := 14) K 3 dX4_fill_14 rfl ?_
  refine gg_aload_n (pc := 16) K 1 dX4_fill_16 rfl rfl ?_
  refine gg_get (pc := 17) K 0 0 i_X7 rfl rfl (by decide) q_1_110 rfl dX4_fill_17 ?_
  refine gg_icmp_ge (pc := 20) K 81 dX4_fill_20 rfl hF (fun c2 hF => ?_) (fun c2 hF => ?_)
  · cases hF
    exact (hQ _ _ _ rfl).1 rfl rfl dX4_fill_81
  · refine gg_iload_n (pc := 23) K 2 dX4_fill_23 rfl rfl ?_
    refine gg_iload (pc := 24) K 3 dX4_fill_24 rfl ?_
    refine gg_ishr (pc := 26) K dX4_fill_26 ?_
    refine gg_iconst (v := (1 : Int32)) (pc := 27) K dX4_fill_27 (by decide) ?_
    refine gg_iand (pc := 28) K dX4_fill_28 ?_
    refine gg_iconst (v := (1 : Int32)) (pc := 29) K dX4_fill_29 (by decide) ?_
    refine gg_icmp_ne (pc := 30) K 75 dX4_fill_30 rfl hF (fun c3 hF => ?_) (fun c3 hF => ?_)
    · exact w_X4_fill_75 K hQ hk14 hF
    · refine gg_aload_n (pc := 33) K 1 dX4_fill_33 rfl rfl ?_
      refine gg_get (pc := 34) K 0 3 i_X7 rfl rfl (by decide) q_1_121 rfl dX4_fill_34 ?_
      refine gg_iload (pc := 37) K 3 dX4_fill_37 rfl ?_
      refine gg_aaldI (pc := 39) K 1 rfl dX4_fill_39 hF (fun h4 hF => ?_)
      refine gg_iconst (v := (0 : Int32)) (pc := 40) K dX4_fill_40 (by decide) ?_
      refine gg_aload_n (pc := 41) K 0 dX4_fill_41 rfl rfl ?_
      refine gg_get (pc := 42) K 10 1 i_X4 rfl rfl (by decide) q_1_223 rfl dX4_fill_42 ?_
      refine gg_aload_n (pc := 45) K 0 dX4_fill_45 rfl rfl ?_
      refine gg_get (pc := 46) K 10 0 i_X4 rfl rfl (by decide) q_1_220 rfl dX4_fill_46 ?_
      refine gg_aload_n (pc := 49) K 1 dX4_fill_49 rfl rfl ?_
      refine gg_get (pc := 50) K 0 2 i_X7 rfl rfl (by decide) q_1_117 rfl dX4_fill_50 ?_
      refine gg_iload (pc := 53) K 3 dX4_fill_53 rfl ?_
      refine gg_iald (pc := 55) K 8 rfl dX4_fill_55 hF (fun hF => ?_)
      refine gg_cpyi (pc := 56) (wf := fun zz => (W_X4_fill (bu_E B) a_p1 a_p1_parent a_p1_ownCount a_p1_own a_t a_t_law r_p1_own v_p1_count v_p1_own v_p1_ownCount v_p1_parent v_t_count zz)) K (2 + (Int32.toNatClampNeg x4)) 11 0 (fun h => h) (lt6_ (P := fun i => (W_X4_fill (bu_E B) a_p1 a_p1_parent a_p1_ownCount a_p1_own a_t a_t_law r_p1_own v_p1_count v_p1_own v_p1_ownCount v_p1_parent v_t_count v_t_law)[2 + i]? = some (r_p1_own i, .inl (en_I (bu_E B), 6, .inl (v_p1_own i)))) rfl rfl rfl rfl rfl rfl _ h4) rfl rfl rfl (fun _ _ => rfl) q_2_203 q_2_205 q_2_204 q_1_12 (Nat.le_of_ble_eq_true rfl) (Nat.le_of_ble_eq_true rfl) dX4_fill_56 hF (fun _ => rfl) (fun f5 ef5 hF => ?_)
      refine gg_aload_n (pc := 59) K 0 dX4_fill_59 rfl rfl ?_
      refine gg_dup (pc := 60) K dX4_fill_60 rfl ?_
      refine gg_get (pc := 61) K 10 0 i_X4 rfl rfl (by decide) q_1_220 rfl dX4_fill_61 ?_
      refine gg_aload_n (pc := 64) K 1 dX4_fill_64 rfl rfl ?_
      refine gg_get (pc := 65) K 0 2 i_X7 rfl rfl (by decide) q_1_117 rfl dX4_fill_65 ?_
      refine gg_iload (pc := 68) K 3 dX4_fill_68 rfl ?_
      refine gg_iald (pc := 70) K 8 rfl dX4_fill_70 hF (fun hF => ?_)
      refine gg_iadd (pc := 71) K dX4_fill_71 ?_
      refine gg_puti (pc := 72) (wf := fun zz => (W_X4_fill (bu_E B) a_p1 a_p1_parent a_p1_ownCount a_p1_own a_t a_t_law r_p1_own v_p1_count v_p1_own v_p1_ownCount v_p1_parent zz f5)) K 10 0 i_X4 tyX4_ok nmX4 rfl rfl (by decide) q_1_220 rfl (by decide +kernel) (Nat.le_of_ble_eq_true rfl) dX4_fill_72 hF (fun _ => rfl) (fun y6 ey6 hF => ?_)
      exact w_X4_fill_75 K hQ hk14 hF
def F_X4_fill_14L  (x3 : Int32) (v_p1_count : Int32) (v_p1_own : (Nat → Nat → Int32)) (v_p1_ownCount : (Nat → Int32)) (fuel : Nat) (x4 : Int32) (v_t_count : Int32) (v_t_law : (Nat → Int32)) : Option (Int32 × (Nat → Int32)) := lp3_ (fun k14 x4 v_t_count v_t_law => F_X4_fill_14 k14 x3 x4 v_p1_count v_p1_own v_p1_ownCount v_t_count v_t_law) fuel x4 v_t_count v_t_law
theorem w_X4_fill_14L {B : bu_T} {a_p1 a_p1_parent a_p1_ownCount a_p1_own a_t a_t_law : Nat} {r_p1_own : Nat → Nat} {v_p1_count : Int32} {v_p1_own : (Nat → Nat → Int32)} {v_p1_ownCount : (Nat → Int32)} {v_p1_parent : (Nat → Int32)} {o_t_count : Int32} {o_t_law : (Nat → Int32)} (K : cx B cX4_fill "SoundDesk$Row" rm_X4_fill 5) (hQ : rt B cX4_fill 5 none rm_X4_fill none (fun x => x = (W_X4_fill (bu_E B) a_p1 a_p1_parent a_p1_ownCount a_p1_own a_t a_t_law r_p1_own v_p1_count v_p1_own v_p1_ownCount v_p1_parent o_t_count o_t_law))) {x3 : Int32} : ∀ (fuel : Nat) (x4 : Int32) (v_t_count : Int32) (v_t_law : (Nat → Int32)), F_X4_fill_14L  x3 v_p1_count v_p1_own v_p1_ownCount fuel x4 v_t_count v_t_law = some (o_t_count, o_t_law) → gg B 5 0 0 14 [(0, .ref a_t), (1, .ref a_p1), (3, .int x3), (4, .int x4)] [] (W_X4_fill (bu_E B) a_p1 a_p1_parent a_p1_ownCount a_p1_own a_t a_t_law r_p1_own v_p1_count v_p1_own v_p1_ownCount v_p1_parent v_t_count v_t_law) := by
  intro fuel
  induction fuel with
  | zero => intro x4 v_t_count v_t_law hF; exact absurd hF (by intro h; cases h)
  | succ fuel ih => intro x4 v_t_count v_t_law hF; exact w_X4_fill_14 K hQ ih hF
def F_X4_fill_0  (x2 : Int32) (v_p1_count : Int32) (v_p1_own : (Nat → Nat → Int32)) (v_p1_ownCount : (Nat → Int32)) (v_p1_parent : (Nat → Int32)) (v_t_count : Int32) (v_t_law : (Nat → Int32)) : Option (Int32 × (Nat → Int32)) := lt_ (0 : Int32) (fun y7 => bn1_ (F_X4_lineOf x2 v_p1_parent) (fun y8 => F_X4_fill_14L  y8 v_p1_count v_p1_own v_p1_ownCount fu_ (0 : Int32) y7 v_t_law))
set_option maxHeartbeats 4000000 in
theorem w_X4_fill_0 {B : bu_T} {a_p1 a_p1_parent a_p1_ownCount a_p1_own a_t a_t_law : Nat} {r_p1_own : Nat → Nat} {v_p1_count : Int32} {v_p1_own : (Nat → Nat → Int32)} {v_p1_ownCount : (Nat → Int32)} {v_p1_parent : (Nat → Int32)} {v_t_count : Int32} {v_t_law : (Nat → Int32)} {o_t_count : Int32} {o_t_law : (Nat → Int32)} (K : cx B cX4_fill "SoundDesk$Row" rm_X4_fill 5) (hQ : rt B cX4_fill 5 none rm_X4_fill none (fun x => x = (W_X4_fill (bu_E B) a_p1 a_p1_parent a_p1_ownCount a_p1_own a_t a_t_law r_p1_own v_p1_count v_p1_own v_p1_ownCount v_p1_parent o_t_count o_t_law))) {x2 : Int32} (hF : F_X4_fill_0  x2 v_p1_count v_p1_own v_p1_ownCount v_p1_parent v_t_count v_t_law = some (o_t_count, o_t_law)) : gg B 5 0 0 0 [(0, .ref a_t), (1, .ref a_p1), (2, .int x2)] [] (W_X4_fill (bu_E B) a_p1 a_p1_parent a_p1_ownCount a_p1_own a_t a_t_law r_p1_own v_p1_count v_p1_own v_p1_ownCount v_p1_parent v_t_count v_t_law) := by
  unfold F_X4_fill_0 at hF
  refine gg_aload_n (pc := 0) K 0 dX4_fill_0 rfl rfl ?_
  refine gg_iconst (v := (0 : Int32)) (pc := 1) K dX4_fill_1 (by decide) ?_
  refine gg_puti (pc := 2) (wf := fun zz => (W_X4_fill (bu_E B) a_p1 a_p1_parent a_p1_ownCount a_p1_own a_t a_t_law r_p1_own v_p1_count v_p1_own v_p1_ownCount v_p1_parent zz v_t_law)) K 10 0 i_X4 tyX4_ok nmX4 rfl rfl (by decide) q_1_220 rfl (by decide +kernel) (Nat.le_of_ble_eq_true rfl) dX4_fill_2 hF (fun _ => rfl) (fun y7 ey7 hF => ?_)
  refine gg_aload_n (pc := 5) K 1 dX4_fill_5 rfl rfl ?_
  refine gg_iload_n (pc := 6) K 2 dX4_fill_6 rfl rfl ?_
  obtain ⟨y8, hc9, hF⟩ := bn1_some hF
  refine gg_dS (pc := 7) (st' := [.int y8]) (rest := []) (w' := (W_X4_fill (bu_E B) a_p1 a_p1_parent a_p1_ownCount a_p1_own a_t a_t_law r_p1_own v_p1_count v_p1_own v_p1_ownCount v_p1_parent y7 v_t_law)) K (c_X4_lineOf (bu_l B) (bu_E B) a_p1 a_p1_parent a_p1_ownCount a_p1_own x2 v_p1_count v_p1_parent hc9) ⟨rfl, rfl⟩ q_2_200 q_2_201 q_1_9 q_2_202 n_X4_lineOf ⟨(Nat.le_of_ble_eq_true rfl), (Nat.le_of_ble_eq_true rfl)⟩ [0, 9] [true, false, false, false, false, false, false, false, false, true, false, false] rfl rfl rfl rfl rfl rfl (by decide) rfl rfl rfl ⟨Nat.zero_le _, Nat.zero_le _⟩ (Nat.le_of_ble_eq_true rfl) dX4_fill_7 ?_
  refine gg_istore_n (pc := 10) (lv' := [(0, .ref a_t), (1, .ref a_p1), (2, .int x2), (3, .int y8)]) K [1, 2, 3, 0] dX4_fill_10 rfl (by decide) rfl ?_
  refine gg_iconst (v := (0 : Int32)) (pc := 11) K dX4_fill_11 (by decide) ?_
  refine gg_istore (pc := 12) (lv' := [(0, .ref a_t), (1, .ref a_p1), (2, .int x2), (3, .int y8), (4, .int (0 : Int32))]) K [1, 2, 3, 4, 0] dX4_fill_12 (by decide) rfl ?_
  refine gg_sub [0, 1, 3, 4] rfl ?_
  exact w_X4_fill_14L K hQ  _ (0 : Int32) y7 v_t_law hF
def F_X4_fill (x2 : Int32) (v_p1_count : Int32) (v_p1_own : (Nat → Nat → Int32)) (v_p1_ownCount : (Nat → Int32)) (v_p1_parent : (Nat → Int32)) (v_t_count : Int32) (v_t_law : (Nat → Int32)) : Option (Int32 × (Nat → Int32)) := F_X4_fill_0 x2 v_p1_count v_p1_own v_p1_ownCount v_p1_parent v_t_count v_t_law
theorem n_X4_fill : yX4_fill.cls = "SoundDesk$Row" ∧ yX4_fill.cls ≠ "java/lang/invoke/MethodHandle" ∧ yX4_fill.cls ≠ "java/lang/invoke/VarHandle" ∧ (parseMethodDescriptor yX4_fill.desc).map (fun d => d.parameters.length) = some 2 := by decide +kernel
theorem c_X4_fill (l : Launch) (E : en_T) (a_p1 a_p1_parent a_p1_ownCount a_p1_own a_t a_t_law : Nat) (r_p1_own : Nat → Nat) (x2 : Int32) (v_p1_count : Int32) (v_p1_own : (Nat → Nat → Int32)) (v_p1_ownCount : (Nat → Int32)) (v_p1_parent : (Nat → Int32)) (v_t_count : Int32) (v_t_law : (Nat → Int32)) {o_t_count : Int32} {o_t_law : (Nat → Int32)} (hF : F_X4_fill x2 v_p1_count v_p1_own v_p1_ownCount v_p1_parent v_t_count v_t_law = some (o_t_count, o_t_law)) : ct l yX4_fill cX4_fill 5 none rm_X4_fill E [.ref a_t, .ref a_p1, .int x2] (W_X4_fill E a_p1 a_p1_parent a_p1_ownCount a_p1_own a_t a_t_law r_p1_own v_p1_count v_p1_own v_p1_ownCount v_p1_parent v_t_count v_t_law) none (fun x => x = (W_X4_fill E a_p1 a_p1_parent a_p1_ownCount a_p1_own a_t a_t_law r_p1_own v_p1_count v_p1_own v_p1_ownCount v_p1_parent o_t_count o_t_law)) := by
  refine ct_of (by decide +kernel) (Nat.le_of_ble_eq_true rfl) (fun B hl hE _ K hQ => ?_)
  subst hl; subst hE
  refine gg_sub (lv' := [(0, .ref a_t), (1, .ref a_p1), (2, .int x2)]) [0, 1, 2] rfl ?_
  exact w_X4_fill_0 K hQ hF
theorem dX4_leadAlong_0 : decode cX4_leadAlong 0 = .ok (.lload_n 2, 1) := by decide +kernel
theorem dX4_leadAlong_1 : decode cX4_leadAlong 1 = .ok (.lstore 4, 2) := by decide +kernel
theorem dX4_leadAlong_3 : decode cX4_leadAlong 3 = .ok (.iconst 0, 1) := by decide +kernel
theorem dX4_leadAlong_4 : decode cX4_leadAlong 4 = .ok (.istore 6, 2) := by decide +kernel
theorem dX4_leadAlong_6 : decode cX4_leadAlong 6 = .ok (.iload 6, 2) := by decide +kernel
theorem dX4_leadAlong_8 : decode cX4_leadAlong 8 = .ok (.aload_n 0, 1) := by decide +kernel
theorem dX4_leadAlong_9 : decode cX4_leadAlong 9 = .ok (.getfield 9, 3) := by decide +kernel
theorem dX4_leadAlong_12 : decode cX4_leadAlong 12 = .ok (.if_icmp .ge 31, 3) := by decide +kernel
theorem dX4_leadAlong_15 : decode cX4_leadAlong 15 = .ok (.lload 4, 2) := by decide +kernel
theorem dX4_leadAlong_17 : decode cX4_leadAlong 17 = .ok (.lconst 0, 1) := by decide +kernel
theorem dX4_leadAlong_18 : decode cX4_leadAlong 18 = .ok (.lcmp, 1) := by decide +kernel
theorem dX4_leadAlong_19 : decode cX4_leadAlong 19 = .ok (.ifCond .eq 24, 3) := by decide +kernel
theorem dX4_leadAlong_22 : decode cX4_leadAlong 22 = .ok (.aload_n 1, 1) := by decide +kernel
theorem dX4_leadAlong_23 : decode cX4_leadAlong 23 = .ok (.aload_n 0, 1) := by decide +kernel
theorem dX4_leadAlong_24 : decode cX4_leadAlong 24 = .ok (.getfield 15, 3) := by decide +kernel
theorem dX4_leadAlong_27 : decode cX4_leadAlong 27 = .ok (.iload 6, 2) := by decide +kernel
theorem dX4_leadAlong_29 : decode cX4_leadAlong 29 = .ok (.iaload, 1) := by decide +kernel
theorem dX4_leadAlong_30 : decode cX4_leadAlong 30 = .ok (.lload 4, 2) := by decide +kernel
theorem dX4_leadAlong_32 : decode cX4_leadAlong 32 = .ok (.invokevirtual 42, 3) := by decide +kernel
theorem dX4_leadAlong_35 : decode cX4_leadAlong 35 = .ok (.lstore 4, 2) := by decide +kernel
theorem dX4_leadAlong_37 : decode cX4_leadAlong 37 = .ok (.iinc 6 1, 3) := by decide +kernel
theorem dX4_leadAlong_40 : decode cX4_leadAlong 40 = .ok (.goto (-34), 3) := by decide +kernel
theorem dX4_leadAlong_43 : decode cX4_leadAlong 43 = .ok (.lload 4, 2) := by decide +kernel
theorem dX4_leadAlong_45 : decode cX4_leadAlong 45 = .ok (.lreturn, 1) := by decide +kernel
def rm_X4_leadAlong : Room := { frames := 4, cells := 0, slots := 0, locals := 107 }
def W_X4_leadAlong (E : en_T) (a_p1 a_p1_how a_p1_into a_p1_kind a_p1_setKind a_p1_setYes a_p1_setNo a_p1_fitting a_t a_t_law : Nat) (v_p1_count : Int32) (v_p1_touched : Int32) (v_p1_fitting : (Nat → Int32)) (v_p1_how : (Nat → Int32)) (v_p1_into : (Nat → Int32)) (v_p1_kind : (Nat → Int32)) (v_t_count : Int32) (v_t_law : (Nat → Int32)) : va_W := [(a_p1, .inr (1, [.int v_p1_count, .int v_p1_touched, .ref a_p1_how, .ref a_p1_into, .ref a_p1_kind, .ref a_p1_setKind, .ref a_p1_setYes, .ref a_p1_setNo, .ref a_p1_fitting])), (a_p1_fitting, .inl (en_I E, 48, .inl v_p1_fitting)), (a_p1_how, .inl (en_I E, 16, .inl v_p1_how)), (a_p1_into, .inl (en_I E, 16, .inl v_p1_into)), (a_p1_kind, .inl (en_I E, 16, .inl v_p1_kind)), (a_t, .inr (4, [.int v_t_count, .ref a_t_law])), (a_t_law, .inl (en_I E, 36, .inl v_t_law))]
def F_X4_leadAlong_6 (k6 : Int64 → Int32 → Int32 → Option (Int64 × Int32)) (x4 : Int64) (x6 : Int32) (v_p1_touched : Int32) (v_p1_fitting : (Nat → Int32)) (v_p1_how : (Nat → Int32)) (v_p1_into : (Nat → Int32)) (v_p1_kind : (Nat → Int32)) (v_t_count : Int32) (v_t_law : (Nat → Int32)) : Option (Int64 × Int32) := if v_t_count ≤ x6 then (some (x4, v_p1_touched)) else (if x4 = (0 : Int64) then (some (x4, v_p1_touched)) else (ck_ x6 36 (bn2_ (F_X1_lead (v_t_law (Int32.toNatClampNeg x6)) x4 v_p1_touched v_p1_fitting v_p1_how v_p1_into v_p1_kind) (fun y4 o3 => lt_ (x6 + (1 : Int32)) (fun y6 => k6 y4 y6 o3)))))
set_option maxHeartbeats 4000000 in
theorem w_X4_leadAlong_6 {B : bu_T} {a_p1 a_p1_how a_p1_into a_p1_kind a_p1_setKind a_p1_setYes a_p1_setNo a_p1_fitting a_t a_t_law : Nat} {v_p1_count : Int32} {v_p1_touched : Int32} {v_p1_fitting : (Nat → Int32)} {v_p1_how : (Nat → Int32)} {v_p1_into : (Nat → Int32)} {v_p1_kind : (Nat → Int32)} {v_t_count : Int32} {v_t_law : (Nat → Int32)} {r : Int64} {o_p1_touched : Int32} (K : cx B cX4_leadAlong "SoundDesk$Row" rm_X4_leadAlong 7) (hQ : rt B cX4_leadAlong 7 (some .long) rm_X4_leadAlong (some (.long r)) (fun x => x = (W_X4_leadAlong (bu_E B) a_p1 a_p1_how a_p1_into a_p1_kind a_p1_setKind a_p1_setYes a_p1_setNo a_p1_fitting a_t a_t_law v_p1_count o_p1_touched v_p1_fitting v_p1_how v_p1_into v_p1_kind v_t_count v_t_law))) {x4 : Int64} {x6 : Int32} {k6 : Int64 → Int32 → Int32 → Option (Int64 × Int32)} (hk6 : ∀ (x4 : Int64) (x6 : Int32) (v_p1_touched : Int32), k6 x4 x6 v_p1_touched = some (r, o_p1_touched) → gg B 7 0 0 6 [(0, .ref a_t), (1, .ref a_p1), (4, .long x4), (6, .int x6)] [] (W_X4_leadAlong (bu_E B) a_p1 a_p1_how a_p1_into a_p1_kind a_p1_setKind a_p1_setYes a_p1_setNo a_p1_fitting a_t a_t_law v_p1_count v_p1_touched v_p1_fitting v_p1_how v_p1_into v_p1_kind v_t_count v_t_law)) (hF : F_X4_leadAlong_6 k6 x4 x6 v_p1_touched v_p1_fitting v_p1_how v_p1_into v_p1_kind v_t_count v_t_law = some (r, o_p1_touched)) : gg B 7 0 0 6 [(0, .ref a_t), (1, .ref a_p1), (4, .long x4), (6, .int x6)] [] (W_X4_leadAlong (bu_E B) a_p1 a_p1_how a_p1_into a_p1_kind a_p1_setKind a_p1_setYes a_p1_setNo a_p1_fitting a_t a_t_law v_p1_count v_p1_touched v_p1_fitting v_p1_how v_p1_into v_p1_kind v_t_count v_t_law) := by
  unfold F_X4_leadAlong_6 at hF
  refine gg_iload (pc := 6) K 3 dX4_leadAlong_6 rfl ?_
  refine gg_aload_n (pc := 8) K 0 dX4_leadAlong_8 rfl rfl ?_
  refine gg_get (pc := 9) K 5 0 i_X4 rfl rfl (by decide) q_1_220 rfl dX4_leadAlong_9 ?_
  refine gg_icmp_ge (pc := 12) K 43 dX4_leadAlong_12 rfl hF (fun c1 hF => ?_) (fun c1 hF => ?_)
  · refine gg_lload (pc := 43) K 2 dX4_leadAlong_43 rfl ?_
    cases hF
    exact (hQ _ _ _ rfl).2.2 _ rfl rfl dX4_leadAlong_45
  · refine gg_lload (pc := 15) K 2 dX4_leadAlong_15 rfl ?_
    refine gg_lconst (v := (0 : Int64)) (pc := 17) K dX4_leadAlong_17 (by decide) ?_
    refine gg_lcmp_eq (pc := 18) K 43 dX4_leadAlong_18 dX4_leadAlong_19 rfl hF (fun c2 hF => ?_) (fun c2 hF => ?_)
    · refine gg_lload (pc := 43) K 2 dX4_leadAlong_43 rfl ?_
      cases hF
      exact (hQ _ _ _ rfl).2.2 _ rfl rfl dX4_leadAlong_45
    · refine gg_aload_n (pc := 22) K 1 dX4_leadAlong_22 rfl rfl ?_
      refine gg_aload_n (pc := 23) K 0 dX4_leadAlong_23 rfl rfl ?_
      refine gg_get (pc := 24) K 5 1 i_X4 rfl rfl (by decide) q_1_223 rfl dX4_leadAlong_24 ?_
      refine gg_iload (pc := 27) K 3 dX4_leadAlong_27 rfl ?_
      refine gg_iald (pc := 29) K 6 rfl dX4_leadAlong_29 hF (fun hF => ?_)
      refine gg_lload (pc := 30) K 2 dX4_leadAlong_30 rfl ?_
      obtain ⟨y4, o3, hc5, hF⟩ := bn2_some hF
      refine gg_dV (pc := 32) (st' := [.long y4]) (rest := []) (w' := (W_X4_leadAlong (bu_E B) a_p1 a_p1_how a_p1_into a_p1_kind a_p1_setKind a_p1_setYes a_p1_setNo a_p1_fitting a_t a_t_law v_p1_count o3 v_p1_fitting v_p1_how v_p1_into v_p1_kind v_t_count v_t_law)) K (c_X1_lead (bu_l B) (bu_E B) a_p1 a_p1_how a_p1_into a_p1_kind a_p1_setKind a_p1_setYes a_p1_setNo a_p1_fitting (v_t_law (Int32.toNatClampNeg x6)) x4 v_p1_count v_p1_touched v_p1_fitting v_p1_how v_p1_into v_p1_kind hc5) ⟨rfl, rfl⟩ q_3_73 q_3_5 q_3_6 q_1_5 q_3_7 n_X1_lead ⟨(Nat.le_of_ble_eq_true rfl), (Nat.le_of_ble_eq_true rfl)⟩ (ci := 1) rfl 0 rfl [0, 1, 2, 3, 4] [true, true, true, true, true, false, false] rfl rfl rfl rfl rfl rfl (by decide) rfl rfl rfl ⟨Nat.zero_le _, Nat.zero_le _⟩ (Nat.le_of_ble_eq_true rfl) dX4_leadAlong_32 ?_
      refine gg_lstore (pc := 35) (lv' := [(0, .ref a_t), (1, .ref a_p1), (4, .long y4), (6, .int x6)]) K [1, 2, 0, 3] dX4_leadAlong_35 (by decide) rfl ?_
      refine gg_iinc (pc := 37) (v := (1 : Int32)) (lw := fun zz => [(0, .ref a_t), (1, .ref a_p1), (4, .long y4), (6, .int zz)]) K 3 [1, 2, 3, 0] dX4_leadAlong_37 rfl rfl (by decide) hF (fun _ => rfl) (fun y6 ey6 hF => ?_)
      refine gg_goto (pc := 40) K 6 dX4_leadAlong_40 rfl ?_
      exact hk6 y4 y6 o3 hF
def F_X4_leadAlong_6L  (v_p1_fitting : (Nat → Int32)) (v_p1_how : (Nat → Int32)) (v_p1_into : (Nat → Int32)) (v_p1_kind : (Nat → Int32)) (v_t_count : Int32) (v_t_law : (Nat → Int32)) (fuel : Nat) (x4 : Int64) (x6 : Int32) (v_p1_touched : Int32) : Option (Int64 × Int32) := lp3_ (fun k6 x4 x6 v_p1_touched => F_X4_leadAlong_6 k6 x4 x6 v_p1_touched v_p1_fitting v_p1_how v_p1_into v_p1_kind v_t_count v_t_law) fuel x4 x6 v_p1_touched
theorem w_X4_leadAlong_6L {B : bu_T} {a_p1 a_p1_how a_p1_into a_p1_kind a_p1_setKind a_p1_setYes a_p1_setNo a_p1_fitting a_t a_t_law : Nat} {v_p1_count : Int32} {v_p1_fitting : (Nat → Int32)} {v_p1_how : (Nat → Int32)} {v_p1_into : (Nat → Int32)} {v_p1_kind : (Nat → Int32)} {v_t_count : Int32} {v_t_law : (Nat → Int32)} {r : Int64} {o_p1_touched : Int32} (K : cx B cX4_leadAlong "SoundDesk$Row" rm_X4_leadAlong 7) (hQ : rt B cX4_leadAlong 7 (some .long) rm_X4_leadAlong (some (.long r)) (fun x => x = (W_X4_leadAlong (bu_E B) a_p1 a_p1_how a_p1_into a_p1_kind a_p1_setKind a_p1_setYes a_p1_setNo a_p1_fitting a_t a_t_law v_p1_count o_p1_touched v_p1_fitting v_p1_how v_p1_into v_p1_kind v_t_count v_t_law)))  : ∀ (fuel : Nat) (x4 : Int64) (x6 : Int32) (v_p1_touched : Int32), F_X4_leadAlong_6L  v_p1_fitting v_p1_how v_p1_into v_p1_kind v_t_count v_t_law fuel x4 x6 v_p1_touched = some (r, o_p1_touched) → gg B 7 0 0 6 [(0, .ref a_t), (1, .ref a_p1), (4, .long x4), (6, .int x6)] [] (W_X4_leadAlong (bu_E B) a_p1 a_p1_how a_p1_into a_p1_kind a_p1_setKind a_p1_setYes a_p1_setNo a_p1_fitting a_t a_t_law v_p1_count v_p1_touched v_p1_fitting v_p1_how v_p1_into v_p1_kind v_t_count v_t_law) := by
  intro fuel
  induction fuel with
  | zero => intro x4 x6 v_p1_touched hF; exact absurd hF (by intro h; cases h)
  | succ fuel ih => intro x4 x6 v_p1_touched hF; exact w_X4_leadAlong_6 K hQ ih hF
def F_X4_leadAlong_0  (x2 : Int64) (v_p1_touched : Int32) (v_p1_fitting : (Nat → Int32)) (v_p1_how : (Nat → Int32)) (v_p1_into : (Nat → Int32)) (v_p1_kind : (Nat → Int32)) (v_t_count : Int32) (v_t_law : (Nat → Int32)) : Option (Int64 × Int32) := F_X4_leadAlong_6L  v_p1_fitting v_p1_how v_p1_into v_p1_kind v_t_count v_t_law fu_ x2 (0 : Int32) v_p1_touched
set_option maxHeartbeats 4000000 in
theorem w_X4_leadAlong_0 {B : bu_T} {a_p1 a_p1_how a_p1_into a_p1_kind a_p1_setKind a_p1_setYes a_p1_setNo a_p1_fitting a_t a_t_law : Nat} {v_p1_count : Int32} {v_p1_touched : Int32} {v_p1_fitting : (Nat → Int32)} {v_p1_how : (Nat → Int32)} {v_p1_into : (Nat → Int32)} {v_p1_kind : (Nat → Int32)} {v_t_count : Int32} {v_t_law : (Nat → Int32)} {r : Int64} {o_p1_touched : Int32} (K : cx B cX4_leadAlong "SoundDesk$Row" rm_X4_leadAlong 7) (hQ : rt B cX4_leadAlong 7 (some .long) rm_X4_leadAlong (some (.long r)) (fun x => x = (W_X4_leadAlong (bu_E B) a_p1 a_p1_how a_p1_into a_p1_kind a_p1_setKind a_p1_setYes a_p1_setNo a_p1_fitting a_t a_t_law v_p1_count o_p1_touched v_p1_fitting v_p1_how v_p1_into v_p1_kind v_t_count v_t_law))) {x2 : Int64} (hF : F_X4_leadAlong_0  x2 v_p1_touched v_p1_fitting v_p1_how v_p1_into v_p1_kind v_t_count v_t_law = some (r, o_p1_touched)) : gg B 7 0 0 0 [(0, .ref a_t), (1, .ref a_p1), (2, .long x2)] [] (W_X4_leadAlong (bu_E B) a_p1 a_p1_how a_p1_into a_p1_kind a_p1_setKind a_p1_setYes a_p1_setNo a_p1_fitting a_t a_t_law v_p1_count v_p1_touched v_p1_fitting v_p1_how v_p1_into v_p1_kind v_t_count v_t_law) := by
  unfold F_X4_leadAlong_0 at hF
  refine gg_lload_n (pc := 0) K 2 dX4_leadAlong_0 rfl rfl ?_
  refine gg_lstore (pc := 1) (lv' := [(0, .ref a_t), (1, .ref a_p1), (2, .long x2), (4, .long x2)]) K [1, 2, 3, 0] dX4_leadAlong_1 (by decide) rfl ?_
  refine gg_iconst (v := (0 : Int32)) (pc := 3) K dX4_leadAlong_3 (by decide) ?_
  refine gg_istore (pc := 4) (lv' := [(0, .ref a_t), (1, .ref a_p1), (2, .long x2), (4, .long x2), (6, .int (0 : Int32))]) K [1, 2, 3, 4, 0] dX4_leadAlong_4 (by decide) rfl ?_
  refine gg_sub [0, 1, 3, 4] rfl ?_
  exact w_X4_leadAlong_6L K hQ  _ x2 (0 : Int32) v_p1_touched hF
def F_X4_leadAlong (x2 : Int64) (v_p1_touched : Int32) (v_p1_fitting : (Nat → Int32)) (v_p1_how : (Nat → Int32)) (v_p1_into : (Nat → Int32)) (v_p1_kind : (Nat → Int32)) (v_t_count : Int32) (v_t_law : (Nat → Int32)) : Option (Int64 × Int32) := F_X4_leadAlong_0 x2 v_p1_touched v_p1_fitting v_p1_how v_p1_into v_p1_kind v_t_count v_t_law
theorem n_X4_leadAlong : yX4_leadAlong.cls = "SoundDesk$Row" ∧ yX4_leadAlong.cls ≠ "java/lang/invoke/MethodHandle" ∧ yX4_leadAlong.cls ≠ "java/lang/invoke/VarHandle" ∧ (parseMethodDescriptor yX4_leadAlong.desc).map (fun d => d.parameters.length) = some 2 := by decide +kernel
theorem c_X4_leadAlong (l : Launch) (E : en_T) (a_p1 a_p1_how a_p1_into a_p1_kind a_p1_setKind a_p1_setYes a_p1_setNo a_p1_fitting a_t a_t_law : Nat) (x2 : Int64) (v_p1_count : Int32) (v_p1_touched : Int32) (v_p1_fitting : (Nat → Int32)) (v_p1_how : (Nat → Int32)) (v_p1_into : (Nat → Int32)) (v_p1_kind : (Nat → Int32)) (v_t_count : Int32) (v_t_law : (Nat → Int32)) {r : Int64} {o_p1_touched : Int32} (hF : F_X4_leadAlong x2 v_p1_touched v_p1_fitting v_p1_how v_p1_into v_p1_kind v_t_count v_t_law = some (r, o_p1_touched)) : ct l yX4_leadAlong cX4_leadAlong 7 (some .long) rm_X4_leadAlong E [.ref a_t, .ref a_p1, .long x2] (W_X4_leadAlong E a_p1 a_p1_how a_p1_into a_p1_kind a_p1_setKind a_p1_setYes a_p1_setNo a_p1_fitting a_t a_t_law v_p1_count v_p1_touched v_p1_fitting v_p1_how v_p1_into v_p1_kind v_t_count v_t_law) (some (.long r)) (fun x => x = (W_X4_leadAlong E a_p1 a_p1_how a_p1_into a_p1_kind a_p1_setKind a_p1_setYes a_p1_setNo a_p1_fitting a_t a_t_law v_p1_count o_p1_touched v_p1_fitting v_p1_how v_p1_into v_p1_kind v_t_count v_t_law)) := by
  refine ct_of (by decide +kernel) (Nat.le_of_ble_eq_true rfl) (fun B hl hE _ K hQ => ?_)
  subst hl; subst hE
  refine gg_sub (lv' := [(0, .ref a_t), (1, .ref a_p1), (2, .long x2)]) [0, 1, 2] rfl ?_
  exact w_X4_leadAlong_0 K hQ hF
theorem dX8_clear_0 : decode cX8_clear 0 = .ok (.aload_n 0, 1) := by decide +kernel
theorem dX8_clear_1 : decode cX8_clear 1 = .ok (.getfield 11, 3) := by decide +kernel
theorem dX8_clear_4 : decode cX8_clear 4 = .ok (.lconst 0, 1) := by decide +kernel
theorem dX8_clear_5 : decode cX8_clear 5 = .ok (.invokestatic 15, 3) := by decide +kernel
theorem dX8_clear_8 : decode cX8_clear 8 = .ok (.return_, 1) := by decide +kernel
def rm_X8_clear : Room := { frames := 1, cells := 0, slots := 0, locals := 24 }
def W_X8_clear (E : en_T) (a_t a_t_slot : Nat) (v_t_slot : (Nat → Int64)) : va_W := [(a_t, .inr (8, [.ref a_t_slot])), (a_t_slot, .inl (en_J E, 8192, .inr (.inl v_t_slot)))]
def F_X8_clear_0  (v_t_slot : (Nat → Int64)) : Option ((Nat → Int64)) := bn1_ (F_J7_fill_d0a16 (0 : Int64) v_t_slot) (fun o1 => some (o1))
set_option maxHeartbeats 4000000 in
theorem w_X8_clear_0 {B : bu_T} {a_t a_t_slot : Nat} {v_t_slot : (Nat → Int64)} {o_t_slot : (Nat → Int64)} (K : cx B cX8_clear "SoundDesk$WordSet" rm_X8_clear 1) (hQ : rt B cX8_clear 1 none rm_X8_clear none (fun x => x = (W_X8_clear (bu_E B) a_t a_t_slot o_t_slot)))  (hF : F_X8_clear_0  v_t_slot = some (o_t_slot)) : gg B 1 0 0 0 [(0, .ref a_t)] [] (W_X8_clear (bu_E B) a_t a_t_slot v_t_slot) := by
  unfold F_X8_clear_0 at hF
  refine gg_aload_n (pc := 0) K 0 dX8_clear_0 rfl rfl ?_
  refine gg_get (pc := 1) K 0 0 i_X8 rfl rfl (by decide) q_1_239 rfl dX8_clear_1 ?_
  refine gg_lconst (v := (0 : Int64)) (pc := 4) K dX8_clear_4 (by decide) ?_
  obtain ⟨o1, hc2, hF⟩ := bn1_some hF
  refine gg_dS (pc := 5) (st' := []) (rest := []) (w' := (W_X8_clear (bu_E B) a_t a_t_slot o1)) K (c_J7_fill_d0a16 (bu_l B) (bu_E B) a_t_slot (0 : Int64) v_t_slot hc2) ⟨rfl, rfl⟩ q_3_101 q_3_102 q_1_14 q_3_103 n_J7_fill_d0a16 ⟨(Nat.le_of_ble_eq_true rfl), (Nat.le_of_ble_eq_true rfl)⟩ [1] [false, true] rfl rfl rfl rfl rfl rfl (by decide) rfl rfl rfl ⟨Nat.zero_le _, Nat.zero_le _⟩ (Nat.le_of_ble_eq_true rfl) dX8_clear_5 ?_
  cases hF
  exact (hQ _ _ _ rfl).1 rfl rfl dX8_clear_8
def F_X8_clear  (v_t_slot : (Nat → Int64)) : Option ((Nat → Int64)) := F_X8_clear_0 v_t_slot
theorem n_X8_clear : yX8_clear.cls = "SoundDesk$WordSet" ∧ yX8_clear.cls ≠ "java/lang/invoke/MethodHandle" ∧ yX8_clear.cls ≠ "java/lang/invoke/VarHandle" ∧ (parseMethodDescriptor yX8_clear.desc).map (fun d => d.parameters.length) = some 0 := by decide +kernel
theorem c_X8_clear (l : Launch) (E : en_T) (a_t a_t_slot : Nat)  (v_t_slot : (Nat → Int64)) {o_t_slot : (Nat → Int64)} (hF : F_X8_clear  v_t_slot = some (o_t_slot)) : ct l yX8_clear cX8_clear 1 none rm_X8_clear E [.ref a_t] (W_X8_clear E a_t a_t_slot v_t_slot) none (fun x => x = (W_X8_clear E a_t a_t_slot o_t_slot)) := by
  refine ct_of (by decide +kernel) (Nat.le_of_ble_eq_true rfl) (fun B hl hE _ K hQ => ?_)
  subst hl; subst hE
  refine gg_sub (lv' := [(0, .ref a_t)]) [0] rfl ?_
  exact w_X8_clear_0 K hQ hF
theorem dX8_isNew_0 : decode cX8_isNew 0 = .ok (.lload_n 1, 1) := by decide +kernel
theorem dX8_isNew_1 : decode cX8_isNew 1 = .ok (.ldc2_w 21, 3) := by decide +kernel
theorem dX8_isNew_4 : decode cX8_isNew 4 = .ok (.lmul, 1) := by decide +kernel
theorem dX8_isNew_5 : decode cX8_isNew 5 = .ok (.bipush 51, 2) := by decide +kernel
theorem dX8_isNew_7 : decode cX8_isNew 7 = .ok (.lushr, 1) := by decide +kernel
theorem dX8_isNew_8 : decode cX8_isNew 8 = .ok (.l2i, 1) := by decide +kernel
theorem dX8_isNew_9 : decode cX8_isNew 9 = .ok (.istore_n 3, 1) := by decide +kernel
theorem dX8_isNew_10 : decode cX8_isNew 10 = .ok (.iconst 0, 1) := by decide +kernel
theorem dX8_isNew_11 : decode cX8_isNew 11 = .ok (.istore 4, 2) := by decide +kernel
theorem dX8_isNew_13 : decode cX8_isNew 13 = .ok (.iload 4, 2) := by decide +kernel
theorem dX8_isNew_15 : decode cX8_isNew 15 = .ok (.sipush 8192, 3) := by decide +kernel
theorem dX8_isNew_18 : decode cX8_isNew 18 = .ok (.if_icmp .ge 55, 3) := by decide +kernel
theorem dX8_isNew_21 : decode cX8_isNew 21 = .ok (.iload_n 3, 1) := by decide +kernel
theorem dX8_isNew_22 : decode cX8_isNew 22 = .ok (.iload 4, 2) := by decide +kernel
theorem dX8_isNew_24 : decode cX8_isNew 24 = .ok (.iadd, 1) := by decide +kernel
theorem dX8_isNew_25 : decode cX8_isNew 25 = .ok (.sipush 8191, 3) := by decide +kernel
theorem dX8_isNew_28 : decode cX8_isNew 28 = .ok (.iand, 1) := by decide +kernel
theorem dX8_isNew_29 : decode cX8_isNew 29 = .ok (.istore 5, 2) := by decide +kernel
theorem dX8_isNew_31 : decode cX8_isNew 31 = .ok (.aload_n 0, 1) := by decide +kernel
theorem dX8_isNew_32 : decode cX8_isNew 32 = .ok (.getfield 11, 3) := by decide +kernel
theorem dX8_isNew_35 : decode cX8_isNew 35 = .ok (.iload 5, 2) := by decide +kernel
theorem dX8_isNew_37 : decode cX8_isNew 37 = .ok (.laload, 1) := by decide +kernel
theorem dX8_isNew_38 : decode cX8_isNew 38 = .ok (.lload_n 1, 1) := by decide +kernel
theorem dX8_isNew_39 : decode cX8_isNew 39 = .ok (.lcmp, 1) := by decide +kernel
theorem dX8_isNew_40 : decode cX8_isNew 40 = .ok (.ifCond .ne 5, 3) := by decide +kernel
theorem dX8_isNew_43 : decode cX8_isNew 43 = .ok (.iconst 0, 1) := by decide +kernel
theorem dX8_isNew_44 : decode cX8_isNew 44 = .ok (.ireturn, 1) := by decide +kernel
theorem dX8_isNew_45 : decode cX8_isNew 45 = .ok (.aload_n 0, 1) := by decide +kernel
theorem dX8_isNew_46 : decode cX8_isNew 46 = .ok (.getfield 11, 3) := by decide +kernel
theorem dX8_isNew_49 : decode cX8_isNew 49 = .ok (.iload 5, 2) := by decide +kernel
theorem dX8_isNew_51 : decode cX8_isNew 51 = .ok (.laload, 1) := by decide +kernel
theorem dX8_isNew_52 : decode cX8_isNew 52 = .ok (.lconst 0, 1) := by decide +kernel
theorem dX8_isNew_53 : decode cX8_isNew 53 = .ok (.lcmp, 1) := by decide +kernel
theorem dX8_isNew_54 : decode cX8_isNew 54 = .ok (.ifCond .ne 13, 3) := by decide +kernel
theorem dX8_isNew_57 : decode cX8_isNew 57 = .ok (.aload_n 0, 1) := by decide +kernel
theorem dX8_isNew_58 : decode cX8_isNew 58 = .ok (.getfield 11, 3) := by decide +kernel
theorem dX8_isNew_61 : decode cX8_isNew 61 = .ok (.iload 5, 2) := by decide +kernel
theorem dX8_isNew_63 : decode cX8_isNew 63 = .ok (.lload_n 1, 1) := by decide +kernel
theorem dX8_isNew_64 : decode cX8_isNew 64 = .ok (.lastore, 1) := by decide +kernel
theorem dX8_isNew_65 : decode cX8_isNew 65 = .ok (.iconst 1, 1) := by decide +kernel
theorem dX8_isNew_66 : decode cX8_isNew 66 = .ok (.ireturn, 1) := by decide +kernel
theorem dX8_isNew_67 : decode cX8_isNew 67 = .ok (.iinc 4 1, 3) := by decide +kernel
theorem dX8_isNew_70 : decode cX8_isNew 70 = .ok (.goto (-57), 3) := by decide +kernel
theorem dX8_isNew_73 : decode cX8_isNew 73 = .ok (.iconst 1, 1) := by decide +kernel
theorem dX8_isNew_74 : decode cX8_isNew 74 = .ok (.ireturn, 1) := by decide +kernel
def rm_X8_isNew : Room := { frames := 0, cells := 0, slots := 0, locals := 0 }
def W_X8_isNew (E : en_T) (a_t a_t_slot : Nat) (v_t_slot : (Nat → Int64)) : va_W := [(a_t, .inr (8, [.ref a_t_slot])), (a_t_slot, .inl (en_J E, 8192, .inr (.inl v_t_slot)))]
def F_X8_isNew_13 (k13 : Int32 → (Nat → Int64) → Option (Int32 × (Nat → Int64))) (x1 : Int64) (x3 : Int32) (x4 : Int32) (v_t_slot : (Nat → Int64)) : Option (Int32 × (Nat → Int64)) := if (8192 : Int32) ≤ x4 then (some ((1 : Int32), v_t_slot)) else (lt_ ((x3 + x4) &&& (8191 : Int32)) (fun y2 => ck_ y2 8192 (if (v_t_slot (Int32.toNatClampNeg y2)) = x1 then (some ((0 : Int32), v_t_slot)) else (ck_ y2 8192 (if (v_t_slot (Int32.toNatClampNeg y2)) = (0 : Int64) then (ck_ y2 8192 (lt_ (vp_updL v_t_slot (Int32.toNatClampNeg y2) x1) (fun f6 => some ((1 : Int32), f6)))) else (lt_ (x4 + (1 : Int32)) (fun y5 => k13 y5 v_t_slot)))))))
set_option maxHeartbeats 4000000 in
theorem w_X8_isNew_13 {B : bu_T} {a_t a_t_slot : Nat} {v_t_slot : (Nat → Int64)} {r : Int32} {o_t_slot : (Nat → Int64)} (K : cx B cX8_isNew "SoundDesk$WordSet" rm_X8_isNew 6) (hQ : rt B cX8_isNew 6 (some .boolean) rm_X8_isNew (some (.int r)) (fun x => x = (W_X8_isNew (bu_E B) a_t a_t_slot o_t_slot))) {x1 : Int64} {x3 : Int32} {x4 : Int32} {k13 : Int32 → (Nat → Int64) → Option (Int32 × (Nat → Int64))} (hk13 : ∀ (x4 : Int32) (v_t_slot : (Nat → Int64)), k13 x4 v_t_slot = some (r, o_t_slot) → gg B 6 0 0 13 [(0, .ref a_t), (1, .long x1), (3, .int x3), (4, .int x4)] [] (W_X8_isNew (bu_E B) a_t a_t_slot v_t_slot)) (hF : F_X8_isNew_13 k13 x1 x3 x4 v_t_slot = some (r, o_t_slot)) : gg B 6 0 0 13 [(0, .ref a_t), (1, .long x1), (3, .int x3), (4, .int x4)] [] (W_X8_isNew (bu_E B) a_t a_t_slot v_t_slot) := by
  unfold F_X8_isNew_13 at hF
  refine gg_iload (pc := 13) K 3 dX8_isNew_13 rfl ?_
  refine gg_sipush (v := (8192 : Int32)) (pc := 15) K dX8_isNew_15 (by decide) ?_
  refine gg_icmp_ge (pc := 18) K 73 dX8_isNew_18 rfl hF (fun c1 hF => ?_) (fun c1 hF => ?_)
  · refine gg_iconst (v := (1 : Int32)) (pc := 73) K dX8_isNew_73 (by decide) ?_
    cases hF
    exact (hQ _ _ _ rfl).2.1 _ _ rfl rfl rfl dX8_isNew_74
  · refine gg_iload_n (pc := 21) K 2 dX8_isNew_21 rfl rfl ?_
    refine gg_iload (pc := 22) K 3 dX8_isNew_22 rfl ?_
    refine gg_iadd (pc := 24) K dX8_isNew_24 ?_
    refine gg_sipush (v := (8191 : Int32)) (pc := 25) K dX8_isNew_25 (by decide) ?_
    refine gg_iand (pc := 28) K dX8_isNew_28 ?_
    refine gg_topi hF (fun y2 ey2 hF => ?_)
    refine gg_istore (pc := 29) (lv' := [(0, .ref a_t), (1, .long x1), (3, .int x3), (4, .int x4), (5, .int y2)]) K [1, 2, 3, 4, 0] dX8_isNew_29 (by decide) rfl ?_
    refine gg_aload_n (pc := 31) K 0 dX8_isNew_31 rfl rfl ?_
    refine gg_get (pc := 32) K 0 0 i_X8 rfl rfl (by decide) q_1_239 rfl dX8_isNew_32 ?_
    refine gg_iload (pc := 35) K 4 dX8_isNew_35 rfl ?_
    refine gg_lald (pc := 37) K 1 rfl dX8_isNew_37 hF (fun hF => ?_)
    refine gg_lload_n (pc := 38) K 1 dX8_isNew_38 rfl rfl ?_
    refine gg_lcmp_ne (pc := 39) K 45 dX8_isNew_39 dX8_isNew_40 rfl hF (fun c3 hF => ?_) (fun c3 hF => ?_)
    · refine gg_aload_n (pc := 45) K 0 dX8_isNew_45 rfl rfl ?_
      refine gg_get (pc := 46) K 0 0 i_X8 rfl rfl (by decide) q_1_239 rfl dX8_isNew_46 ?_
      refine gg_iload (pc := 49) K 4 dX8_isNew_49 rfl ?_
      refine gg_lald (pc := 51) K 1 rfl dX8_isNew_51 hF (fun hF => ?_)
      refine gg_lconst (v := (0 : Int64)) (pc := 52) K dX8_isNew_52 (by decide) ?_
      refine gg_lcmp_ne (pc := 53) K 67 dX8_isNew_53 dX8_isNew_54 rfl hF (fun c4 hF => ?_) (fun c4 hF => ?_)
      · refine gg_iinc (pc := 67) (v := (1 : Int32)) (lw := fun zz => [(0, .ref a_t), (1, .long x1), (3, .int x3), (4, .int zz), (5, .int y2)]) K 3 [1, 2, 3, 0, 4] dX8_isNew_67 rfl rfl (by decide) hF (fun _ => rfl) (fun y5 ey5 hF => ?_)
        refine gg_goto (pc := 70) K 13 dX8_isNew_70 rfl ?_
        refine gg_sub [0, 1, 2, 3] rfl ?_
        exact hk13 y5 v_t_slot hF
      · refine gg_aload_n (pc := 57) K 0 dX8_isNew_57 rfl rfl ?_
        refine gg_get (pc := 58) K 0 0 i_X8 rfl rfl (by decide) q_1_239 rfl dX8_isNew_58 ?_
        refine gg_iload (pc := 61) K 4 dX8_isNew_61 rfl ?_
        refine gg_lload_n (pc := 63) K 1 dX8_isNew_63 rfl rfl ?_
        refine gg_last (pc := 64) (wf := fun zz => (W_X8_isNew (bu_E B) a_t a_t_slot zz)) K 1 rfl dX8_isNew_64 hF (fun _ => rfl) (fun f6 ef6 hF => ?_)
        refine gg_iconst (v := (1 : Int32)) (pc := 65) K dX8_isNew_65 (by decide) ?_
        cases hF
        exact (hQ _ _ _ rfl).2.1 _ _ rfl rfl rfl dX8_isNew_66
    · refine gg_iconst (v := (0 : Int32)) (pc := 43) K dX8_isNew_43 (by decide) ?_
      cases hF
      exact (hQ _ _ _ rfl).2.1 _ _ rfl rfl rfl dX8_isNew_44
def F_X8_isNew_13L  (x1 : Int64) (x3 : Int32) (fuel : Nat) (x4 : Int32) (v_t_slot : (Nat → Int64)) : Option (Int32 × (Nat → Int64)) := lp2_ (fun k13 x4 v_t_slot => F_X8_isNew_13 k13 x1 x3 x4 v_t_slot) fuel x4 v_t_slot
theorem w_X8_isNew_13L {B : bu_T} {a_t a_t_slot : Nat} {r : Int32} {o_t_slot : (Nat → Int64)} (K : cx B cX8_isNew "SoundDesk$WordSet" rm_X8_isNew 6) (hQ : rt B cX8_isNew 6 (some .boolean) rm_X8_isNew (some (.int r)) (fun x => x = (W_X8_isNew (bu_E B) a_t a_t_slot o_t_slot))) {x1 : Int64} {x3 : Int32} : ∀ (fuel : Nat) (x4 : Int32) (v_t_slot : (Nat → Int64)), F_X8_isNew_13L  x1 x3 fuel x4 v_t_slot = some (r, o_t_slot) → gg B 6 0 0 13 [(0, .ref a_t), (1, .long x1), (3, .int x3), (4, .int x4)] [] (W_X8_isNew (bu_E B) a_t a_t_slot v_t_slot) := by
  intro fuel
  induction fuel with
  | zero => intro x4 v_t_slot hF; exact absurd hF (by intro h; cases h)
  | succ fuel ih => intro x4 v_t_slot hF; exact w_X8_isNew_13 K hQ ih hF
def F_X8_isNew_0  (x1 : Int64) (v_t_slot : (Nat → Int64)) : Option (Int32 × (Nat → Int64)) := lt_ (Int64.toInt32 (ul_ (x1 * (-7046029254386353131 : Int64)) (51 : Int32))) (fun y7 => F_X8_isNew_13L  x1 y7 fu_ (0 : Int32) v_t_slot)
set_option maxHeartbeats 4000000 in
theorem w_X8_isNew_0 {B : bu_T} {a_t a_t_slot : Nat} {v_t_slot : (Nat → Int64)} {r : Int32} {o_t_slot : (Nat → Int64)} (K : cx B cX8_isNew "SoundDesk$WordSet" rm_X8_isNew 6) (hQ : rt B cX8_isNew 6 (some .boolean) rm_X8_isNew (some (.int r)) (fun x => x = (W_X8_isNew (bu_E B) a_t a_t_slot o_t_slot))) {x1 : Int64} (hF : F_X8_isNew_0  x1 v_t_slot = some (r, o_t_slot)) : gg B 6 0 0 0 [(0, .ref a_t), (1, .long x1)] [] (W_X8_isNew (bu_E B) a_t a_t_slot v_t_slot) := by
  unfold F_X8_isNew_0 at hF
  refine gg_lload_n (pc := 0) K 1 dX8_isNew_0 rfl rfl ?_
  refine gg_ldc2_w (v := (-7046029254386353131 : Int64)) (pc := 1) K q_3_108 dX8_isNew_1 ?_
  refine gg_lmul (pc := 4) K dX8_isNew_4 ?_
  refine gg_bipush (v := (51 : Int32)) (pc := 5) K dX8_isNew_5 (by decide) ?_
  refine gg_lushr (pc := 7) K dX8_isNew_7 ?_
  refine gg_l2i (pc := 8) K dX8_isNew_8 ?_
  refine gg_topi hF (fun y7 ey7 hF => ?_)
  refine gg_istore_n (pc := 9) (lv' := [(0, .ref a_t), (1, .long x1), (3, .int y7)]) K [1, 2, 0] dX8_isNew_9 rfl (by decide) rfl ?_
  refine gg_iconst (v := (0 : Int32)) (pc := 10) K dX8_isNew_10 (by decide) ?_
  refine gg_istore (pc := 11) (lv' := [(0, .ref a_t), (1, .long x1), (3, .int y7), (4, .int (0 : Int32))]) K [1, 2, 3, 0] dX8_isNew_11 (by decide) rfl ?_
  exact w_X8_isNew_13L K hQ  _ (0 : Int32) v_t_slot hF
def F_X8_isNew (x1 : Int64) (v_t_slot : (Nat → Int64)) : Option (Int32 × (Nat → Int64)) := F_X8_isNew_0 x1 v_t_slot
theorem n_X8_isNew : yX8_isNew.cls = "SoundDesk$WordSet" ∧ yX8_isNew.cls ≠ "java/lang/invoke/MethodHandle" ∧ yX8_isNew.cls ≠ "java/lang/invoke/VarHandle" ∧ (parseMethodDescriptor yX8_isNew.desc).map (fun d => d.parameters.length) = some 1 := by decide +kernel
theorem c_X8_isNew (l : Launch) (E : en_T) (a_t a_t_slot : Nat) (x1 : Int64) (v_t_slot : (Nat → Int64)) {r : Int32} {o_t_slot : (Nat → Int64)} (hF : F_X8_isNew x1 v_t_slot = some (r, o_t_slot)) : ct l yX8_isNew cX8_isNew 6 (some .boolean) rm_X8_isNew E [.ref a_t, .long x1] (W_X8_isNew E a_t a_t_slot v_t_slot) (some (.int r)) (fun x => x = (W_X8_isNew E a_t a_t_slot o_t_slot)) := by
  refine ct_of (by decide +kernel) (Nat.le_of_ble_eq_true rfl) (fun B hl hE _ K hQ => ?_)
  subst hl; subst hE
  refine gg_sub (lv' := [(0, .ref a_t), (1, .long x1)]) [0, 1] rfl ?_
  exact w_X8_isNew_0 K hQ hF
theorem dX2_countForms_0 : decode cX2_countForms 0 = .ok (.iconst 0, 1) := by decide +kernel
theorem dX2_countForms_1 : decode cX2_countForms 1 = .ok (.istore_n 2, 1) := by decide +kernel
theorem dX2_countForms_2 : decode cX2_countForms 2 = .ok (.iconst 0, 1) := by decide +kernel
theorem dX2_countForms_3 : decode cX2_countForms 3 = .ok (.istore_n 3, 1) := by decide +kernel
theorem dX2_countForms_4 : decode cX2_countForms 4 = .ok (.iload_n 3, 1) := by decide +kernel
theorem dX2_countForms_5 : decode cX2_countForms 5 = .ok (.bipush 6, 2) := by decide +kernel
theorem dX2_countForms_7 : decode cX2_countForms 7 = .ok (.if_icmp .ge 25, 3) := by decide +kernel
theorem dX2_countForms_10 : decode cX2_countForms 10 = .ok (.aload_n 0, 1) := by decide +kernel
theorem dX2_countForms_11 : decode cX2_countForms 11 = .ok (.getfield 19, 3) := by decide +kernel
theorem dX2_countForms_14 : decode cX2_countForms 14 = .ok (.iload_n 1, 1) := by decide +kernel
theorem dX2_countForms_15 : decode cX2_countForms 15 = .ok (.aaload, 1) := by decide +kernel
theorem dX2_countForms_16 : decode cX2_countForms 16 = .ok (.iload_n 3, 1) := by decide +kernel
theorem dX2_countForms_17 : decode cX2_countForms 17 = .ok (.laload, 1) := by decide +kernel
theorem dX2_countForms_18 : decode cX2_countForms 18 = .ok (.lconst 0, 1) := by decide +kernel
theorem dX2_countForms_19 : decode cX2_countForms 19 = .ok (.lcmp, 1) := by decide +kernel
theorem dX2_countForms_20 : decode cX2_countForms 20 = .ok (.ifCond .eq 6, 3) := by decide +kernel
theorem dX2_countForms_23 : decode cX2_countForms 23 = .ok (.iinc 2 1, 3) := by decide +kernel
theorem dX2_countForms_26 : decode cX2_countForms 26 = .ok (.iinc 3 1, 3) := by decide +kernel
theorem dX2_countForms_29 : decode cX2_countForms 29 = .ok (.goto (-25), 3) := by decide +kernel
theorem dX2_countForms_32 : decode cX2_countForms 32 = .ok (.iload_n 2, 1) := by decide +kernel
theorem dX2_countForms_33 : decode cX2_countForms 33 = .ok (.ireturn, 1) := by decide +kernel
def rm_X2_countForms : Room := { frames := 0, cells := 0, slots := 0, locals := 0 }
def W_X2_countForms (E : en_T) (a_t a_t_form : Nat) (r_t_form : Nat → Nat) (v_t_count : Int32) (v_t_form : (Nat → Nat → Int64)) : va_W := [(a_t, .inr (2, [.int v_t_count, .ref a_t_form])), (a_t_form, .inl (en_JJ E, 8, .inr (.inr (.inr (.inr (go_ 8 r_t_form)))))), (r_t_form 0, .inl (en_J E, 6, .inr (.inl (v_t_form 0)))), (r_t_form 1, .inl (en_J E, 6, .inr (.inl (v_t_form 1)))), (r_t_form 2, .inl (en_J E, 6, .inr (.inl (v_t_form 2)))), (r_t_form 3, .inl (en_J E, 6, .inr (.inl (v_t_form 3)))), (r_t_form 4, .inl (en_J E, 6, .inr (.inl (v_t_form 4)))), (r_t_form 5, .inl (en_J E, 6, .inr (.inl (v_t_form 5)))), (r_t_form 6, .inl (en_J E, 6, .inr (.inl (v_t_form 6)))), (r_t_form 7, .inl (en_J E, 6, .inr (.inl (v_t_form 7))))]
def F_X2_countForms_26 (k4 : Int32 → Int32 → Option (Int32)) (x1 : Int32) (x2 : Int32) (x3 : Int32) (v_t_form : (Nat → Nat → Int64)) : Option (Int32) := lt_ (x3 + (1 : Int32)) (fun y1 => k4 x2 y1)
set_option maxHeartbeats 4000000 in
theorem w_X2_countForms_26 {B : bu_T} {a_t a_t_form : Nat} {r_t_form : Nat → Nat} {v_t_count : Int32} {v_t_form : (Nat → Nat → Int64)} {r : Int32}  (K : cx B cX2_countForms "SoundDesk$Meanings" rm_X2_countForms 4) (hQ : rt B cX2_countForms 4 (some .int) rm_X2_countForms (some (.int r)) (fun x => x = (W_X2_countForms (bu_E B) a_t a_t_form r_t_form v_t_count v_t_form))) {x1 : Int32} {x2 : Int32} {x3 : Int32} {k4 : Int32 → Int32 → Option (Int32)} (hk4 : ∀ (x2 : Int32) (x3 : Int32), k4 x2 x3 = some (r) → gg B 4 0 0 4 [(0, .ref a_t), (1, .int x1), (2, .int x2), (3, .int x3)] [] (W_X2_countForms (bu_E B) a_t a_t_form r_t_form v_t_count v_t_form)) (hF : F_X2_countForms_26 k4 x1 x2 x3 v_t_form = some (r)) : gg B 4 0 0 26 [(0, .ref a_t), (1, .int x1), (2, .int x2), (3, .int x3)] [] (W_X2_countForms (bu_E B) a_t a_t_form r_t_form v_t_count v_t_form) := by
  unfold F_X2_countForms_26 at hF
  refine gg_iinc (pc := 26) (v := (1 : Int32)) (lw := fun zz => [(0, .ref a_t), (1, .int x1), (2, .int x2), (3, .int zz)]) K 3 [1, 2, 3, 0] dX2_countForms_26 rfl rfl (by decide) hF (fun _ => rfl) (fun y1 ey1 hF => ?_)
  refine gg_goto (pc := 29) K 4 dX2_countForms_29 rfl ?_
  exact hk4 x2 y1 hF
def F_X2_countForms_4 (k4 : Int32 → Int32 → Option (Int32)) (x1 : Int32) (x2 : Int32) (x3 : Int32) (v_t_form : (Nat → Nat → Int64)) : Option (Int32) := if (6 : Int32) ≤ x3 then (some (x2)) else (ck_ x1 8 (ck_ x3 6 (if (v_t_form (Int32.toNatClampNeg x1) (Int32.toNatClampNeg x3)) = (0 : Int64) then (F_X2_countForms_26 k4 x1 x2 x3 v_t_form) else (lt_ (x2 + (1 : Int32)) (fun y5 => F_X2_countForms_26 k4 x1 y5 x3 v_t_form)))))
set_option maxHeartbeats 4000000 in
theorem w_X2_countForms_4 {B : bu_T} {a_t a_t_form : Nat} {r_t_form : Nat → Nat} {v_t_count : Int32} {v_t_form : (Nat → Nat → Int64)} {r : Int32}  (K : cx B cX2_countForms "SoundDesk$Meanings" rm_X2_countForms 4) (hQ : rt B cX2_countForms 4 (some .int) rm_X2_countForms (some (.int r)) (fun x => x = (W_X2_countForms (bu_E B) a_t a_t_form r_t_form v_t_count v_t_form))) {x1 : Int32} {x2 : Int32} {x3 : Int32} {k4 : Int32 → Int32 → Option (Int32)} (hk4 : ∀ (x2 : Int32) (x3 : Int32), k4 x2 x3 = some (r) → gg B 4 0 0 4 [(0, .ref a_t), (1, .int x1), (2, .int x2), (3, .int x3)] [] (W_X2_countForms (bu_E B) a_t a_t_form r_t_form v_t_count v_t_form)) (hF : F_X2_countForms_4 k4 x1 x2 x3 v_t_form = some (r)) : gg B 4 0 0 4 [(0, .ref a_t), (1, .int x1), (2, .int x2), (3, .int x3)] [] (W_X2_countForms (bu_E B) a_t a_t_form r_t_form v_t_count v_t_form) := by
  unfold F_X2_countForms_4 at hF
  refine gg_iload_n (pc := 4) K 3 dX2_countForms_4 rfl rfl ?_
  refine gg_bipush (v := (6 : Int32)) (pc := 5) K dX2_countForms_5 (by decide) ?_
  refine gg_icmp_ge (pc := 7) K 32 dX2_countForms_7 rfl hF (fun c2 hF => ?_) (fun c2 hF => ?_)
  · refine gg_iload_n (pc := 32) K 2 dX2_countForms_32 rfl rfl ?_
    cases hF
    exact (hQ _ _ _ rfl).2.1 _ _ rfl rfl rfl dX2_countForms_33
  · refine gg_aload_n (pc := 10) K 0 dX2_countForms_10 rfl rfl ?_
    refine gg_get (pc := 11) K 0 1 i_X2 rfl rfl (by decide) q_1_144 rfl dX2_countForms_11 ?_
    refine gg_iload_n (pc := 14) K 1 dX2_countForms_14 rfl rfl ?_
    refine gg_aaldJ (pc := 15) K 1 rfl dX2_countForms_15 hF (fun h3 hF => ?_)
    refine gg_iload_n (pc := 16) K 3 dX2_countForms_16 rfl rfl ?_
    refine gg_rlld (pc := 17) K 2 (lt8_ rfl rfl rfl rfl rfl rfl rfl rfl) h3 dX2_countForms_17 hF (fun hF => ?_)
    refine gg_lconst (v := (0 : Int64)) (pc := 18) K dX2_countForms_18 (by decide) ?_
    refine gg_lcmp_eq (pc := 19) K 26 dX2_countForms_19 dX2_countForms_20 rfl hF (fun c4 hF => ?_) (fun c4 hF => ?_)
    · exact w_X2_countForms_26 K hQ hk4 hF
    · refine gg_iinc (pc := 23) (v := (1 : Int32)) (lw := fun zz => [(0, .ref a_t), (1, .int x1), (2, .int zz), (3, .int x3)]) K 2 [1, 2, 0, 3] dX2_countForms_23 rfl rfl (by decide) hF (fun _ => rfl) (fun y5 ey5 hF => ?_)
      exact w_X2_countForms_26 K hQ hk4 hF
def F_X2_countForms_4L  (x1 : Int32) (v_t_form : (Nat → Nat → Int64)) (fuel : Nat) (x2 : Int32) (x3 : Int32) : Option (Int32) := lp2_ (fun k4 x2 x3 => F_X2_countForms_4 k4 x1 x2 x3 v_t_form) fuel x2 x3
theorem w_X2_countForms_4L {B : bu_T} {a_t a_t_form : Nat} {r_t_form : Nat → Nat} {v_t_count : Int32} {v_t_form : (Nat → Nat → Int64)} {r : Int32}  (K : cx B cX2_countForms "SoundDesk$Meanings" rm_X2_countForms 4) (hQ : rt B cX2_countForms 4 (some .int) rm_X2_countForms (some (.int r)) (fun x => x = (W_X2_countForms (bu_E B) a_t a_t_form r_t_form v_t_count v_t_form))) {x1 : Int32} : ∀ (fuel : Nat) (x2 : Int32) (x3 : Int32), F_X2_countForms_4L  x1 v_t_form fuel x2 x3 = some (r) → gg B 4 0 0 4 [(0, .ref a_t), (1, .int x1), (2, .int x2), (3, .int x3)] [] (W_X2_countForms (bu_E B) a_t a_t_form r_t_form v_t_count v_t_form) := by
  intro fuel
  induction fuel with
  | zero => intro x2 x3 hF; exact absurd hF (by intro h; cases h)
  | succ fuel ih => intro x2 x3 hF; exact w_X2_countForms_4 K hQ ih hF
def F_X2_countForms_0  (x1 : Int32) (v_t_form : (Nat → Nat → Int64)) : Option (Int32) := F_X2_countForms_4L  x1 v_t_form fu_ (0 : Int32) (0 : Int32)
set_option maxHeartbeats 4000000 in
theorem w_X2_countForms_0 {B : bu_T} {a_t a_t_form : Nat} {r_t_form : Nat → Nat} {v_t_count : Int32} {v_t_form : (Nat → Nat → Int64)} {r : Int32}  (K : cx B cX2_countForms "SoundDesk$Meanings" rm_X2_countForms 4) (hQ : rt B cX2_countForms 4 (some .int) rm_X2_countForms (some (.int r)) (fun x => x = (W_X2_countForms (bu_E B) a_t a_t_form r_t_form v_t_count v_t_form))) {x1 : Int32} (hF : F_X2_countForms_0  x1 v_t_form = some (r)) : gg B 4 0 0 0 [(0, .ref a_t), (1, .int x1)] [] (W_X2_countForms (bu_E B) a_t a_t_form r_t_form v_t_count v_t_form) := by
  unfold F_X2_countForms_0 at hF
  refine gg_iconst (v := (0 : Int32)) (pc := 0) K dX2_countForms_0 (by decide) ?_
  refine gg_istore_n (pc := 1) (lv' := [(0, .ref a_t), (1, .int x1), (2, .int (0 : Int32))]) K [1, 2, 0] dX2_countForms_1 rfl (by decide) rfl ?_
  refine gg_iconst (v := (0 : Int32)) (pc := 2) K dX2_countForms_2 (by decide) ?_
  refine gg_istore_n (pc := 3) (lv' := [(0, .ref a_t), (1, .int x1), (2, .int (0 : Int32)), (3, .int (0 : Int32))]) K [1, 2, 3, 0] dX2_countForms_3 rfl (by decide) rfl ?_
  exact w_X2_countForms_4L K hQ  _ (0 : Int32) (0 : Int32) hF
def F_X2_countForms (x1 : Int32) (v_t_form : (Nat → Nat → Int64)) : Option (Int32) := F_X2_countForms_0 x1 v_t_form
theorem n_X2_countForms : yX2_countForms.cls = "SoundDesk$Meanings" ∧ yX2_countForms.cls ≠ "java/lang/invoke/MethodHandle" ∧ yX2_countForms.cls ≠ "java/lang/invoke/VarHandle" ∧ (parseMethodDescriptor yX2_countForms.desc).map (fun d => d.parameters.length) = some 1 := by decide +kernel
theorem c_X2_countForms (l : Launch) (E : en_T) (a_t a_t_form : Nat) (r_t_form : Nat → Nat) (x1 : Int32) (v_t_count : Int32) (v_t_form : (Nat → Nat → Int64)) {r : Int32}  (hF : F_X2_countForms x1 v_t_form = some (r)) : ct l yX2_countForms cX2_countForms 4 (some .int) rm_X2_countForms E [.ref a_t, .int x1] (W_X2_countForms E a_t a_t_form r_t_form v_t_count v_t_form) (some (.int r)) (fun x => x = (W_X2_countForms E a_t a_t_form r_t_form v_t_count v_t_form)) := by
  refine ct_of (by decide +kernel) (Nat.le_of_ble_eq_true rfl) (fun B hl hE _ K hQ => ?_)
  subst hl; subst hE
  refine gg_sub (lv' := [(0, .ref a_t), (1, .int x1)]) [0, 1] rfl ?_
  exact w_X2_countForms_0 K hQ hF
theorem dX2_countAgreeing_0 : decode cX2_countAgreeing 0 = .ok (.iconst 0, 1) := by decide +kernel
theorem dX2_countAgreeing_1 : decode cX2_countAgreeing 1 = .ok (.istore_n 3, 1) := by decide +kernel
theorem dX2_countAgreeing_2 : decode cX2_countAgreeing 2 = .ok (.iconst 0, 1) := by decide +kernel
theorem dX2_countAgreeing_3 : decode cX2_countAgreeing 3 = .ok (.istore 4, 2) := by decide +kernel
theorem dX2_countAgreeing_5 : decode cX2_countAgreeing 5 = .ok (.iload 4, 2) := by decide +kernel
theorem dX2_countAgreeing_7 : decode cX2_countAgreeing 7 = .ok (.bipush 6, 2) := by decide +kernel
theorem dX2_countAgreeing_9 : decode cX2_countAgreeing 9 = .ok (.if_icmp .ge 43, 3) := by decide +kernel
theorem dX2_countAgreeing_12 : decode cX2_countAgreeing 12 = .ok (.aload_n 0, 1) := by decide +kernel
theorem dX2_countAgreeing_13 : decode cX2_countAgreeing 13 = .ok (.getfield 19, 3) := by decide +kernel
theorem dX2_countAgreeing_16 : decode cX2_countAgreeing 16 = .ok (.iload_n 1, 1) := by decide +kernel
theorem dX2_countAgreeing_17 : decode cX2_countAgreeing 17 = .ok (.aaload, 1) := by decide +kernel
theorem dX2_countAgreeing_18 : decode cX2_countAgreeing 18 = .ok (.iload 4, 2) := by decide +kernel
theorem dX2_countAgreeing_20 : decode cX2_countAgreeing 20 = .ok (.laload, 1) := by decide +kernel
theorem dX2_countAgreeing_21 : decode cX2_countAgreeing 21 = .ok (.lconst 0, 1) := by decide +kernel
theorem dX2_countAgreeing_22 : decode cX2_countAgreeing 22 = .ok (.lcmp, 1) := by decide +kernel
theorem dX2_countAgreeing_23 : decode cX2_countAgreeing 23 = .ok (.ifCond .eq 23, 3) := by decide +kernel
theorem dX2_countAgreeing_26 : decode cX2_countAgreeing 26 = .ok (.aload_n 0, 1) := by decide +kernel
theorem dX2_countAgreeing_27 : decode cX2_countAgreeing 27 = .ok (.getfield 19, 3) := by decide +kernel
theorem dX2_countAgreeing_30 : decode cX2_countAgreeing 30 = .ok (.iload_n 1, 1) := by decide +kernel
theorem dX2_countAgreeing_31 : decode cX2_countAgreeing 31 = .ok (.aaload, 1) := by decide +kernel
theorem dX2_countAgreeing_32 : decode cX2_countAgreeing 32 = .ok (.iload 4, 2) := by decide +kernel
theorem dX2_countAgreeing_34 : decode cX2_countAgreeing 34 = .ok (.laload, 1) := by decide +kernel
theorem dX2_countAgreeing_35 : decode cX2_countAgreeing 35 = .ok (.aload_n 2, 1) := by decide +kernel
theorem dX2_countAgreeing_36 : decode cX2_countAgreeing 36 = .ok (.iload 4, 2) := by decide +kernel
theorem dX2_countAgreeing_38 : decode cX2_countAgreeing 38 = .ok (.laload, 1) := by decide +kernel
theorem dX2_countAgreeing_39 : decode cX2_countAgreeing 39 = .ok (.lcmp, 1) := by decide +kernel
theorem dX2_countAgreeing_40 : decode cX2_countAgreeing 40 = .ok (.ifCond .ne 6, 3) := by decide +kernel
theorem dX2_countAgreeing_43 : decode cX2_countAgreeing 43 = .ok (.iinc 3 1, 3) := by decide +kernel
theorem dX2_countAgreeing_46 : decode cX2_countAgreeing 46 = .ok (.iinc 4 1, 3) := by decide +kernel
theorem dX2_countAgreeing_49 : decode cX2_countAgreeing 49 = .ok (.goto (-44), 3) := by decide +kernel
theorem dX2_countAgreeing_52 : decode cX2_countAgreeing 52 = .ok (.iload_n 3, 1) := by decide +kernel
theorem dX2_countAgreeing_53 : decode cX2_countAgreeing 53 = .ok (.ireturn, 1) := by decide +kernel
def rm_X2_countAgreeing : Room := { frames := 0, cells := 0, slots := 0, locals := 0 }
def W_X2_countAgreeing (E : en_T) (a_p2 a_t a_t_form : Nat) (r_t_form : Nat → Nat) (v_p2 : (Nat → Int64)) (v_t_count : Int32) (v_t_form : (Nat → Nat → Int64)) : va_W := [(a_p2, .inl (en_J E, 6, .inr (.inl v_p2))), (a_t, .inr (2, [.int v_t_count, .ref a_t_form])), (a_t_form, .inl (en_JJ E, 8, .inr (.inr (.inr (.inr (go_ 8 r_t_form)))))), (r_t_form 0, .inl (en_J E, 6, .inr (.inl (v_t_form 0)))), (r_t_form 1, .inl (en_J E, 6, .inr (.inl (v_t_form 1)))), (r_t_form 2, .inl (en_J E, 6, .inr (.inl (v_t_form 2)))), (r_t_form 3, .inl (en_J E, 6, .inr (.inl (v_t_form 3)))), (r_t_form 4, .inl (en_J E, 6, .inr (.inl (v_t_form 4)))), (r_t_form 5, .inl (en_J E, 6, .inr (.inl (v_t_form 5)))), (r_t_form 6, .inl (en_J E, 6, .inr (.inl (v_t_form 6)))), (r_t_form 7, .inl (en_J E, 6, .inr (.inl (v_t_form 7))))]
def F_X2_countAgreeing_46 (k5 : Int32 → Int32 → Option (Int32)) (x1 : Int32) (x3 : Int32) (x4 : Int32) (v_p2 : (Nat → Int64)) (v_t_form : (Nat → Nat → Int64)) : Option (Int32) := lt_ (x4 + (1 : Int32)) (fun y1 => k5 x3 y1)
set_option maxHeartbeats 4000000 in
theorem w_X2_countAgreeing_46 {B : bu_T} {a_p2 a_t a_t_form : Nat} {r_t_form : Nat → Nat} {v_p2 : (Nat → Int64)} {v_t_count : Int32} {v_t_form : (Nat → Nat → Int64)} {r : Int32}  (K : cx B cX2_countAgreeing "SoundDesk$Meanings" rm_X2_countAgreeing 5) (hQ : rt B cX2_countAgreeing 5 (some .int) rm_X2_countAgreeing (some (.int r)) (fun x => x = (W_X2_countAgreeing (bu_E B) a_p2 a_t a_t_form r_t_form v_p2 v_t_count v_t_form))) {x1 : Int32} {x3 : Int32} {x4 : Int32} {k5 : Int32 → Int32 → Option (Int32)} (hk5 : ∀ (x3 : Int32) (x4 : Int32), k5 x3 x4 = some (r) → gg B 5 0 0 5 [(0, .ref a_t), (1, .int x1), (2, .ref a_p2), (3, .int x3), (4, .int x4)] [] (W_X2_countAgreeing (bu_E B) a_p2 a_t a_t_form r_t_form v_p2 v_t_count v_t_form)) (hF : F_X2_countAgreeing_46 k5 x1 x3 x4 v_p2 v_t_form = some (r)) : gg B 5 0 0 46 [(0, .ref a_t), (1, .int x1), (2, .ref a_p2), (3, .int x3), (4, .int x4)] [] (W_X2_countAgreeing (bu_E B) a_p2 a_t a_t_form r_t_form v_p2 v_t_count v_t_form) := by
  unfold F_X2_countAgreeing_46 at hF
  refine gg_iinc (pc := 46) (v := (1 : Int32)) (lw := fun zz => [(0, .ref a_t), (1, .int x1), (2, .ref a_p2), (3, .int x3), (4, .int zz)]) K 4 [1, 2, 3, 4, 0] dX2_countAgreeing_46 rfl rfl (by decide) hF (fun _ => rfl) (fun y1 ey1 hF => ?_)
  refine gg_goto (pc := 49) K 5 dX2_countAgreeing_49 rfl ?_
  exact hk5 x3 y1 hF
def F_X2_countAgreeing_5 (k5 : Int32 → Int32 → Option (Int32)) (x1 : Int32) (x3 : Int32) (x4 : Int32) (v_p2 : (Nat → Int64)) (v_t_form : (Nat → Nat → Int64)) : Option (Int32) := if (6 : Int32) ≤ x4 then (some (x3)) else (ck_ x1 8 (ck_ x4 6 (if (v_t_form (Int32.toNatClampNeg x1) (Int32.toNatClampNeg x4)) = (0 : Int64) then (F_X2_countAgreeing_46 k5 x1 x3 x4 v_p2 v_t_form) else (ck_ x1 8 (ck_ x4 6 (ck_ x4 6 (if (v_t_form (Int32.toNatClampNeg x1) (Int32.toNatClampNeg x4)) = (v_p2 (Int32.toNatClampNeg x4)) then (lt_ (x3 + (1 : Int32)) (fun y7 => F_X2_countAgreeing_46 k5 x1 y7 x4 v_p2 v_t_form)) else (F_X2_countAgreeing_46 k5 x1 x3 x4 v_p2 v_t_form))))))))
set_option maxHeartbeats 4000000 in
theorem w_X2_countAgreeing_5 {B : bu_T} {a_p2 a_t a_t_form : Nat} {r_t_form : Nat → Nat} {v_p2 : (Nat → Int64)} {v_t_count : Int32} {v_t_form : (Nat → Nat → Int64)} {r : Int32}  (K : cx B cX2_countAgreeing "SoundDesk$Meanings" rm_X2_countAgreeing 5) (hQ : rt B cX2_countAgreeing 5 (some .int) rm_X2_countAgreeing (some (.int r)) (fun x => x = (W_X2_countAgreeing (bu_E B) a_p2 a_t a_t_form r_t_form v_p2 v_t_count v_t_form))) {x1 : Int32} {x3 : Int32} {x4 : Int32} {k5 : Int32 → Int32 → Option (Int32)} (hk5 : ∀ (x3 : Int32) (x4 : Int32), k5 x3 x4 = some (r) → gg B 5 0 0 5 [(0, .ref a_t), (1, .int x1), (2, .ref a_p2), (3, .int x3), (4, .int x4)] [] (W_X2_countAgreeing (bu_E B) a_p2 a_t a_t_form r_t_form v_p2 v_t_count v_t_form)) (hF : F_X2_countAgreeing_5 k5 x1 x3 x4 v_p2 v_t_form = some (r)) : gg B 5 0 0 5 [(0, .ref a_t), (1, .int x1), (2, .ref a_p2), (3, .int x3), (4, .int x4)] [] (W_X2_countAgreeing (bu_E B) a_p2 a_t a_t_form r_t_form v_p2 v_t_count v_t_form) := by
  unfold F_X2_countAgreeing_5 at hF
  refine gg_iload (pc := 5) K 4 dX2_countAgreeing_5 rfl ?_
  refine gg_bipush (v := (6 : Int32)) (pc := 7) K dX2_countAgreeing_7 (by decide) ?_
  refine gg_icmp_ge (pc := 9) K 52 dX2_countAgreeing_9 rfl hF (fun c2 hF => ?_) (fun c2 hF => ?_)
  · refine gg_iload_n (pc := 52) K 3 dX2_countAgreeing_52 rfl rfl ?_
    cases hF
    exact (hQ _ _ _ rfl).2.1 _ _ rfl rfl rfl dX2_countAgreeing_53
  · refine gg_aload_n (pc := 12) K 0 dX2_countAgreeing_12 rfl rfl ?_
    refine gg_get (pc := 13) K 1 1 i_X2 rfl rfl (by decide) q_1_144 rfl dX2_countAgreeing_13 ?_
    refine gg_iload_n (pc := 16) K 1 dX2_countAgreeing_16 rfl rfl ?_
    refine gg_aaldJ (pc := 17) K 2 rfl dX2_countAgreeing_17 hF (fun h3 hF => ?_)
    refine gg_iload (pc := 18) K 4 dX2_countAgreeing_18 rfl ?_
    refine gg_rlld (pc := 20) K 3 (lt8_ rfl rfl rfl rfl rfl rfl rfl rfl) h3 dX2_countAgreeing_20 hF (fun hF => ?_)
    refine gg_lconst (v := (0 : Int64)) (pc := 21) K dX2_countAgreeing_21 (by decide) ?_
    refine gg_lcmp_eq (pc := 22) K 46 dX2_countAgreeing_22 dX2_countAgreeing_23 rfl hF (fun c4 hF => ?_) (fun c4 hF => ?_)
    · exact w_X2_countAgreeing_46 K hQ hk5 hF
    · refine gg_aload_n (pc := 26) K 0 dX2_countAgreeing_26 rfl rfl ?_
      refine gg_get (pc := 27) K 1 1 i_X2 rfl rfl (by decide) q_1_144 rfl dX2_countAgreeing_27 ?_
      refine gg_iload_n (pc := 30) K 1 dX2_countAgreeing_30 rfl rfl ?_
      refine gg_aaldJ (pc := 31) K 2 rfl dX2_countAgreeing_31 hF (fun h5 hF => ?_)
      refine gg_iload (pc := 32) K 4 dX2_countAgreeing_32 rfl ?_
      refine gg_rlld (pc := 34) K 3 (lt8_ rfl rfl rfl rfl rfl rfl rfl rfl) h5 dX2_countAgreeing_34 hF (fun hF => ?_)
      refine gg_aload_n (pc := 35) K 2 dX2_countAgreeing_35 rfl rfl ?_
      refine gg_iload (pc := 36) K 4 dX2_countAgreeing_36 rfl ?_
      refine gg_lald (pc := 38) K 0 rfl dX2_countAgreeing_38 hF (fun hF => ?_)
      refine gg_lcmp_ne (pc := 39) K 46 dX2_countAgreeing_39 dX2_countAgreeing_40 rfl hF (fun c6 hF => ?_) (fun c6 hF => ?_)
      · exact w_X2_countAgreeing_46 K hQ hk5 hF
      · refine gg_iinc (pc := 43) (v := (1 : Int32)) (lw := fun zz => [(0, .ref a_t), (1, .int x1), (2, .ref a_p2), (3, .int zz), (4, .int x4)]) K 3 [1, 2, 3, 0, 4] dX2_countAgreeing_43 rfl rfl (by decide) hF (fun _ => rfl) (fun y7 ey7 hF => ?_)
        exact w_X2_countAgreeing_46 K hQ hk5 hF
def F_X2_countAgreeing_5L  (x1 : Int32) (v_p2 : (Nat → Int64)) (v_t_form : (Nat → Nat → Int64)) (fuel : Nat) (x3 : Int32) (x4 : Int32) : Option (Int32) := lp2_ (fun k5 x3 x4 => F_X2_countAgreeing_5 k5 x1 x3 x4 v_p2 v_t_form) fuel x3 x4
theorem w_X2_countAgreeing_5L {B : bu_T} {a_p2 a_t a_t_form : Nat} {r_t_form : Nat → Nat} {v_p2 : (Nat → Int64)} {v_t_count : Int32} {v_t_form : (Nat → Nat → Int64)} {r : Int32}  (K : cx B cX2_countAgreeing "SoundDesk$Meanings" rm_X2_countAgreeing 5) (hQ : rt B cX2_countAgreeing 5 (some .int) rm_X2_countAgreeing (some (.int r)) (fun x => x = (W_X2_countAgreeing (bu_E B) a_p2 a_t a_t_form r_t_form v_p2 v_t_count v_t_form))) {x1 : Int32} : ∀ (fuel : Nat) (x3 : Int32) (x4 : Int32), F_X2_countAgreeing_5L  x1 v_p2 v_t_form fuel x3 x4 = some (r) → gg B 5 0 0 5 [(0, .ref a_t), (1, .int x1), (2, .ref a_p2), (3, .int x3), (4, .int x4)] [] (W_X2_countAgreeing (bu_E B) a_p2 a_t a_t_form r_t_form v_p2 v_t_count v_t_form) := by
  intro fuel
  induction fuel with
  | zero => intro x3 x4 hF; exact absurd hF (by intro h; cases h)
  | succ fuel ih => intro x3 x4 hF; exact w_X2_countAgreeing_5 K hQ ih hF
def F_X2_countAgreeing_0  (x1 : Int32) (v_p2 : (Nat → Int64)) (v_t_form : (Nat → Nat → Int64)) : Option (Int32) := F_X2_countAgreeing_5L  x1 v_p2 v_t_form fu_ (0 : Int32) (0 : Int32)
set_option maxHeartbeats 4000000 in
theorem w_X2_countAgreeing_0 {B : bu_T} {a_p2 a_t a_t_form : Nat} {r_t_form : Nat → Nat} {v_p2 : (Nat → Int64)} {v_t_count : Int32} {v_t_form : (Nat → Nat → Int64)} {r : Int32}  (K : cx B cX2_countAgreeing "SoundDesk$Meanings" rm_X2_countAgreeing 5) (hQ : rt B cX2_countAgreeing 5 (some .int) rm_X2_countAgreeing (some (.int r)) (fun x => x = (W_X2_countAgreeing (bu_E B) a_p2 a_t a_t_form r_t_form v_p2 v_t_count v_t_form))) {x1 : Int32} (hF : F_X2_countAgreeing_0  x1 v_p2 v_t_form = some (r)) : gg B 5 0 0 0 [(0, .ref a_t), (1, .int x1), (2, .ref a_p2)] [] (W_X2_countAgreeing (bu_E B) a_p2 a_t a_t_form r_t_form v_p2 v_t_count v_t_form) := by
  unfold F_X2_countAgreeing_0 at hF
  refine gg_iconst (v := (0 : Int32)) (pc := 0) K dX2_countAgreeing_0 (by decide) ?_
  refine gg_istore_n (pc := 1) (lv' := [(0, .ref a_t), (1, .int x1), (2, .ref a_p2), (3, .int (0 : Int32))]) K [1, 2, 3, 0] dX2_countAgreeing_1 rfl (by decide) rfl ?_
  refine gg_iconst (v := (0 : Int32)) (pc := 2) K dX2_countAgreeing_2 (by decide) ?_
  refine gg_istore (pc := 3) (lv' := [(0, .ref a_t), (1, .int x1), (2, .ref a_p2), (3, .int (0 : Int32)), (4, .int (0 : Int32))]) K [1, 2, 3, 4, 0] dX2_countAgreeing_3 (by decide) rfl ?_
  exact w_X2_countAgreeing_5L K hQ  _ (0 : Int32) (0 : Int32) hF
def F_X2_countAgreeing (x1 : Int32) (v_p2 : (Nat → Int64)) (v_t_form : (Nat → Nat → Int64)) : Option (Int32) := F_X2_countAgreeing_0 x1 v_p2 v_t_form
theorem n_X2_countAgreeing : yX2_countAgreeing.cls = "SoundDesk$Meanings" ∧ yX2_countAgreeing.cls ≠ "java/lang/invoke/MethodHandle" ∧ yX2_countAgreeing.cls ≠ "java/lang/invoke/VarHandle" ∧ (parseMethodDescriptor yX2_countAgreeing.desc).map (fun d => d.parameters.length) = some 2 := by decide +kernel
theorem c_X2_countAgreeing (l : Launch) (E : en_T) (a_p2 a_t a_t_form : Nat) (r_t_form : Nat → Nat) (x1 : Int32) (v_p2 : (Nat → Int64)) (v_t_count : Int32) (v_t_form : (Nat → Nat → Int64)) {r : Int32}  (hF : F_X2_countAgreeing x1 v_p2 v_t_form = some (r)) : ct l yX2_countAgreeing cX2_countAgreeing 5 (some .int) rm_X2_countAgreeing E [.ref a_t, .int x1, .ref a_p2] (W_X2_countAgreeing E a_p2 a_t a_t_form r_t_form v_p2 v_t_count v_t_form) (some (.int r)) (fun x => x = (W_X2_countAgreeing E a_p2 a_t a_t_form r_t_form v_p2 v_t_count v_t_form)) := by
  refine ct_of (by decide +kernel) (Nat.le_of_ble_eq_true rfl) (fun B hl hE _ K hQ => ?_)
  subst hl; subst hE
  refine gg_sub (lv' := [(0, .ref a_t), (1, .int x1), (2, .ref a_p2)]) [0, 1, 2] rfl ?_
  exact w_X2_countAgreeing_0 K hQ hF
theorem dX2_isRooted_0 : decode cX2_isRooted 0 = .ok (.aload_n 0, 1) := by decide +kernel
theorem dX2_isRooted_1 : decode cX2_isRooted 1 = .ok (.iload_n 1, 1) := by decide +kernel
theorem dX2_isRooted_2 : decode cX2_isRooted 2 = .ok (.invokevirtual 28, 3) := by decide +kernel
theorem dX2_isRooted_5 : decode cX2_isRooted 5 = .ok (.istore_n 3, 1) := by decide +kernel
theorem dX2_isRooted_6 : decode cX2_isRooted 6 = .ok (.iload_n 3, 1) := by decide +kernel
theorem dX2_isRooted_7 : decode cX2_isRooted 7 = .ok (.ifCond .le 17, 3) := by decide +kernel
theorem dX2_isRooted_10 : decode cX2_isRooted 10 = .ok (.aload_n 0, 1) := by decide +kernel
theorem dX2_isRooted_11 : decode cX2_isRooted 11 = .ok (.iload_n 1, 1) := by decide +kernel
theorem dX2_isRooted_12 : decode cX2_isRooted 12 = .ok (.aload_n 2, 1) := by decide +kernel
theorem dX2_isRooted_13 : decode cX2_isRooted 13 = .ok (.invokevirtual 32, 3) := by decide +kernel
theorem dX2_isRooted_16 : decode cX2_isRooted 16 = .ok (.iload_n 3, 1) := by decide +kernel
theorem dX2_isRooted_17 : decode cX2_isRooted 17 = .ok (.if_icmp .ne 7, 3) := by decide +kernel
theorem dX2_isRooted_20 : decode cX2_isRooted 20 = .ok (.iconst 1, 1) := by decide +kernel
theorem dX2_isRooted_21 : decode cX2_isRooted 21 = .ok (.goto 4, 3) := by decide +kernel
theorem dX2_isRooted_24 : decode cX2_isRooted 24 = .ok (.iconst 0, 1) := by decide +kernel
theorem dX2_isRooted_25 : decode cX2_isRooted 25 = .ok (.ireturn, 1) := by decide +kernel
def rm_X2_isRooted : Room := { frames := 1, cells := 0, slots := 0, locals := 24 }
def W_X2_isRooted (E : en_T) (a_p2 a_t a_t_form : Nat) (r_t_form : Nat → Nat) (v_p2 : (Nat → Int64)) (v_t_count : Int32) (v_t_form : (Nat → Nat → Int64)) : va_W := [(a_p2, .inl (en_J E, 6, .inr (.inl v_p2))), (a_t, .inr (2, [.int v_t_count, .ref a_t_form])), (a_t_form, .inl (en_JJ E, 8, .inr (.inr (.inr (.inr (go_ 8 r_t_form)))))), (r_t_form 0, .inl (en_J E, 6, .inr (.inl (v_t_form 0)))), (r_t_form 1, .inl (en_J E, 6, .inr (.inl (v_t_form 1)))), (r_t_form 2, .inl (en_J E, 6, .inr (.inl (v_t_form 2)))), (r_t_form 3, .inl (en_J E, 6, .inr (.inl (v_t_form 3)))), (r_t_form 4, .inl (en_J E, 6, .inr (.inl (v_t_form 4)))), (r_t_form 5, .inl (en_J E, 6, .inr (.inl (v_t_form 5)))), (r_t_form 6, .inl (en_J E, 6, .inr (.inl (v_t_form 6)))), (r_t_form 7, .inl (en_J E, 6, .inr (.inl (v_t_form 7))))]
def F_X2_isRooted_0  (x1 : Int32) (v_p2 : (Nat → Int64)) (v_t_form : (Nat → Nat → Int64)) : Option (Int32) := bn1_ (F_X2_countForms x1 v_t_form) (fun y1 => if y1 ≤ (0 : Int32) then (some ((0 : Int32))) else (bn1_ (F_X2_countAgreeing x1 v_p2 v_t_form) (fun y4 => if y4 = y1 then (some ((1 : Int32))) else (some ((0 : Int32))))))
set_option maxHeartbeats 4000000 in
theorem w_X2_isRooted_0 {B : bu_T} {a_p2 a_t a_t_form : Nat} {r_t_form : Nat → Nat} {v_p2 : (Nat → Int64)} {v_t_count : Int32} {v_t_form : (Nat → Nat → Int64)} {r : Int32}  (K : cx B cX2_isRooted "SoundDesk$Meanings" rm_X2_isRooted 4) (hQ : rt B cX2_isRooted 4 (some .boolean) rm_X2_isRooted (some (.int r)) (fun x => x = (W_X2_isRooted (bu_E B) a_p2 a_t a_t_form r_t_form v_p2 v_t_count v_t_form))) {x1 : Int32} (hF : F_X2_isRooted_0  x1 v_p2 v_t_form = some (r)) : gg B 4 0 0 0 [(0, .ref a_t), (1, .int x1), (2, .ref a_p2)] [] (W_X2_isRooted (bu_E B) a_p2 a_t a_t_form r_t_form v_p2 v_t_count v_t_form) := by
  unfold F_X2_isRooted_0 at hF
  refine gg_aload_n (pc := 0) K 0 dX2_isRooted_0 rfl rfl ?_
  refine gg_iload_n (pc := 1) K 1 dX2_isRooted_1 rfl rfl ?_
  obtain ⟨y1, hc2, hF⟩ := bn1_some hF
  refine gg_dV (pc := 2) (st' := [.int y1]) (rest := []) (w' := (W_X2_isRooted (bu_E B) a_p2 a_t a_t_form r_t_form v_p2 v_t_count v_t_form)) K (c_X2_countForms (bu_l B) (bu_E B) a_t a_t_form r_t_form x1 v_t_count v_t_form hc2) ⟨rfl, rfl⟩ q_3_153 q_3_134 q_3_135 q_1_7 q_3_136 n_X2_countForms ⟨(Nat.le_of_ble_eq_true rfl), (Nat.le_of_ble_eq_true rfl)⟩ (ci := 2) rfl 1 rfl [1, 2, 3, 4, 5, 6, 7, 8, 9, 10] [false, true, true, true, true, true, true, true, true, true, true] rfl rfl rfl rfl rfl rfl (by decide) rfl rfl rfl ⟨Nat.zero_le _, Nat.zero_le _⟩ (Nat.le_of_ble_eq_true rfl) dX2_isRooted_2 ?_
  refine gg_istore_n (pc := 5) (lv' := [(0, .ref a_t), (1, .int x1), (2, .ref a_p2), (3, .int y1)]) K [1, 2, 3, 0] dX2_isRooted_5 rfl (by decide) rfl ?_
  refine gg_iload_n (pc := 6) K 3 dX2_isRooted_6 rfl rfl ?_
  refine gg_if_le (pc := 7) K 24 dX2_isRooted_7 rfl hF (fun c3 hF => ?_) (fun c3 hF => ?_)
  · refine gg_iconst (v := (0 : Int32)) (pc := 24) K dX2_isRooted_24 (by decide) ?_
    cases hF
    exact (hQ _ _ _ rfl).2.1 _ _ rfl rfl rfl dX2_isRooted_25
  · refine gg_aload_n (pc := 10) K 0 dX2_isRooted_10 rfl rfl ?_
    refine gg_iload_n (pc := 11) K 1 dX2_isRooted_11 rfl rfl ?_
    refine gg_aload_n (pc := 12) K 2 dX2_isRooted_12 rfl rfl ?_
    obtain ⟨y4, hc5, hF⟩ := bn1_some hF
    refine gg_dV (pc := 13) (st' := [.int y4]) (rest := []) (w' := (W_X2_isRooted (bu_E B) a_p2 a_t a_t_form r_t_form v_p2 v_t_count v_t_form)) K (c_X2_countAgreeing (bu_l B) (bu_E B) a_p2 a_t a_t_form r_t_form x1 v_p2 v_t_count v_t_form hc5) ⟨rfl, rfl⟩ q_3_154 q_3_155 q_3_156 q_1_7 q_3_157 n_X2_countAgreeing ⟨(Nat.le_of_ble_eq_true rfl), (Nat.le_of_ble_eq_true rfl)⟩ (ci := 2) rfl 1 rfl [0, 1, 2, 3, 4, 5, 6, 7, 8, 9, 10] [true, true, true, true, true, true, true, true, true, true, true] rfl rfl rfl rfl rfl rfl (by decide) rfl rfl rfl ⟨Nat.zero_le _, Nat.zero_le _⟩ (Nat.le_of_ble_eq_true rfl) dX2_isRooted_13 ?_
    refine gg_iload_n (pc := 16) K 3 dX2_isRooted_16 rfl rfl ?_
    refine gg_icmp_ne (pc := 17) K 24 dX2_isRooted_17 rfl hF (fun c6 hF => ?_) (fun c6 hF => ?_)
    · refine gg_iconst (v := (0 : Int32)) (pc := 24) K dX2_isRooted_24 (by decide) ?_
      cases hF
      exact (hQ _ _ _ rfl).2.1 _ _ rfl rfl rfl dX2_isRooted_25
    · refine gg_iconst (v := (1 : Int32)) (pc := 20) K dX2_isRooted_20 (by decide) ?_
      refine gg_goto (pc := 21) K 25 dX2_isRooted_21 rfl ?_
      cases hF
      exact (hQ _ _ _ rfl).2.1 _ _ rfl rfl rfl dX2_isRooted_25
def F_X2_isRooted (x1 : Int32) (v_p2 : (Nat → Int64)) (v_t_form : (Nat → Nat → Int64)) : Option (Int32) := F_X2_isRooted_0 x1 v_p2 v_t_form
theorem n_X2_isRooted : yX2_isRooted.cls = "SoundDesk$Meanings" ∧ yX2_isRooted.cls ≠ "java/lang/invoke/MethodHandle" ∧ yX2_isRooted.cls ≠ "java/lang/invoke/VarHandle" ∧ (parseMethodDescriptor yX2_isRooted.desc).map (fun d => d.parameters.length) = some 2 := by decide +kernel
theorem c_X2_isRooted (l : Launch) (E : en_T) (a_p2 a_t a_t_form : Nat) (r_t_form : Nat → Nat) (x1 : Int32) (v_p2 : (Nat → Int64)) (v_t_count : Int32) (v_t_form : (Nat → Nat → Int64)) {r : Int32}  (hF : F_X2_isRooted x1 v_p2 v_t_form = some (r)) : ct l yX2_isRooted cX2_isRooted 4 (some .boolean) rm_X2_isRooted E [.ref a_t, .int x1, .ref a_p2] (W_X2_isRooted E a_p2 a_t a_t_form r_t_form v_p2 v_t_count v_t_form) (some (.int r)) (fun x => x = (W_X2_isRooted E a_p2 a_t a_t_form r_t_form v_p2 v_t_count v_t_form)) := by
  refine ct_of (by decide +kernel) (Nat.le_of_ble_eq_true rfl) (fun B hl hE _ K hQ => ?_)
  subst hl; subst hE
  refine gg_sub (lv' := [(0, .ref a_t), (1, .int x1), (2, .ref a_p2)]) [0, 1, 2] rfl ?_
  exact w_X2_isRooted_0 K hQ hF
theorem dX2_withForms_0 : decode cX2_withForms 0 = .ok (.iconst 0, 1) := by decide +kernel
theorem dX2_withForms_1 : decode cX2_withForms 1 = .ok (.istore_n 1, 1) := by decide +kernel
theorem dX2_withForms_2 : decode cX2_withForms 2 = .ok (.iconst 0, 1) := by decide +kernel
theorem dX2_withForms_3 : decode cX2_withForms 3 = .ok (.istore_n 2, 1) := by decide +kernel
theorem dX2_withForms_4 : decode cX2_withForms 4 = .ok (.iload_n 2, 1) := by decide +kernel
theorem dX2_withForms_5 : decode cX2_withForms 5 = .ok (.aload_n 0, 1) := by decide +kernel
theorem dX2_withForms_6 : decode cX2_withForms 6 = .ok (.getfield 9, 3) := by decide +kernel
theorem dX2_withForms_9 : decode cX2_withForms 9 = .ok (.if_icmp .ge 23, 3) := by decide +kernel
theorem dX2_withForms_12 : decode cX2_withForms 12 = .ok (.aload_n 0, 1) := by decide +kernel
theorem dX2_withForms_13 : decode cX2_withForms 13 = .ok (.iload_n 2, 1) := by decide +kernel
theorem dX2_withForms_14 : decode cX2_withForms 14 = .ok (.invokevirtual 28, 3) := by decide +kernel
theorem dX2_withForms_17 : decode cX2_withForms 17 = .ok (.ifCond .le 9, 3) := by decide +kernel
theorem dX2_withForms_20 : decode cX2_withForms 20 = .ok (.iload_n 1, 1) := by decide +kernel
theorem dX2_withForms_21 : decode cX2_withForms 21 = .ok (.iconst 1, 1) := by decide +kernel
theorem dX2_withForms_22 : decode cX2_withForms 22 = .ok (.iload_n 2, 1) := by decide +kernel
theorem dX2_withForms_23 : decode cX2_withForms 23 = .ok (.ishl, 1) := by decide +kernel
theorem dX2_withForms_24 : decode cX2_withForms 24 = .ok (.ior, 1) := by decide +kernel
theorem dX2_withForms_25 : decode cX2_withForms 25 = .ok (.istore_n 1, 1) := by decide +kernel
theorem dX2_withForms_26 : decode cX2_withForms 26 = .ok (.iinc 2 1, 3) := by decide +kernel
theorem dX2_withForms_29 : decode cX2_withForms 29 = .ok (.goto (-25), 3) := by decide +kernel
theorem dX2_withForms_32 : decode cX2_withForms 32 = .ok (.iload_n 1, 1) := by decide +kernel
theorem dX2_withForms_33 : decode cX2_withForms 33 = .ok (.ireturn, 1) := by decide +kernel
def rm_X2_withForms : Room := { frames := 1, cells := 0, slots := 0, locals := 23 }
def W_X2_withForms (E : en_T) (a_t a_t_form : Nat) (r_t_form : Nat → Nat) (v_t_count : Int32) (v_t_form : (Nat → Nat → Int64)) : va_W := [(a_t, .inr (2, [.int v_t_count, .ref a_t_form])), (a_t_form, .inl (en_JJ E, 8, .inr (.inr (.inr (.inr (go_ 8 r_t_form)))))), (r_t_form 0, .inl (en_J E, 6, .inr (.inl (v_t_form 0)))), (r_t_form 1, .inl (en_J E, 6, .inr (.inl (v_t_form 1)))), (r_t_form 2, .inl (en_J E, 6, .inr (.inl (v_t_form 2)))), (r_t_form 3, .inl (en_J E, 6, .inr (.inl (v_t_form 3)))), (r_t_form 4, .inl (en_J E, 6, .inr (.inl (v_t_form 4)))), (r_t_form 5, .inl (en_J E, 6, .inr (.inl (v_t_form 5)))), (r_t_form 6, .inl (en_J E, 6, .inr (.inl (v_t_form 6)))), (r_t_form 7, .inl (en_J E, 6, .inr (.inl (v_t_form 7))))]
def F_X2_withForms_26 (k4 : Int32 → Int32 → Option (Int32)) (x1 : Int32) (x2 : Int32) (v_t_count : Int32) (v_t_form : (Nat → Nat → Int64)) : Option (Int32) := lt_ (x2 + (1 : Int32)) (fun y1 => k4 x1 y1)
set_option maxHeartbeats 4000000 in
theorem w_X2_withForms_26 {B : bu_T} {a_t a_t_form : Nat} {r_t_form : Nat → Nat} {v_t_count : Int32} {v_t_form : (Nat → Nat → Int64)} {r : Int32}  (K : cx B cX2_withForms "SoundDesk$Meanings" rm_X2_withForms 3) (hQ : rt B cX2_withForms 3 (some .int) rm_X2_withForms (some (.int r)) (fun x => x = (W_X2_withForms (bu_E B) a_t a_t_form r_t_form v_t_count v_t_form))) {x1 : Int32} {x2 : Int32} {k4 : Int32 → Int32 → Option (Int32)} (hk4 : ∀ (x1 : Int32) (x2 : Int32), k4 x1 x2 = some (r) → gg B 3 0 0 4 [(0, .ref a_t), (1, .int x1), (2, .int x2)] [] (W_X2_withForms (bu_E B) a_t a_t_form r_t_form v_t_count v_t_form)) (hF : F_X2_withForms_26 k4 x1 x2 v_t_count v_t_form = some (r)) : gg B 3 0 0 26 [(0, .ref a_t), (1, .int x1), (2, .int x2)] [] (W_X2_withForms (bu_E B) a_t a_t_form r_t_form v_t_count v_t_form) := by
  unfold F_X2_withForms_26 at hF
  refine gg_iinc (pc := 26) (v := (1 : Int32)) (lw := fun zz => [(0, .ref a_t), (1, .int x1), (2, .int zz)]) K 2 [1, 2, 0] dX2_withForms_26 rfl rfl (by decide) hF (fun _ => rfl) (fun y1 ey1 hF => ?_)
  refine gg_goto (pc := 29) K 4 dX2_withForms_29 rfl ?_
  exact hk4 x1 y1 hF
def F_X2_withForms_4 (k4 : Int32 → Int32 → Option (Int32)) (x1 : Int32) (x2 : Int32) (v_t_count : Int32) (v_t_form : (Nat → Nat → Int64)) : Option (Int32) := if v_t_count ≤ x2 then (some (x1)) else (bn1_ (F_X2_countForms x2 v_t_form) (fun y3 => if y3 ≤ (0 : Int32) then (F_X2_withForms_26 k4 x1 x2 v_t_count v_t_form) else (lt_ (x1 ||| ((1 : Int32) <<< (x2 &&& 31))) (fun y6 => F_X2_withForms_26 k4 y6 x2 v_t_count v_t_form))))
set_option maxHeartbeats 4000000 in
theorem w_X2_withForms_4 {B : bu_T} {a_t a_t_form : Nat} {r_t_form : Nat → Nat} {v_t_count : Int32} {v_t_form : (Nat → Nat → Int64)} {r : Int32}  (K : cx B cX2_withForms "SoundDesk$Meanings" rm_X2_withForms 3) (hQ : rt B cX2_withForms 3 (some .int) rm_X2_withForms (some (.int r)) (fun x => x = (W_X2_withForms (bu_E B) a_t a_t_form r_t_form v_t_count v_t_form))) {x1 : Int32} {x2 : Int32} {k4 : Int32 → Int32 → Option (Int32)} (hk4 : ∀ (x1 : Int32) (x2 : Int32), k4 x1 x2 = some (r) → gg B 3 0 0 4 [(0, .ref a_t), (1, .int x1), (2, .int x2)] [] (W_X2_withForms (bu_E B) a_t a_t_form r_t_form v_t_count v_t_form)) (hF : F_X2_withForms_4 k4 x1 x2 v_t_count v_t_form = some (r)) : gg B 3 0 0 4 [(0, .ref a_t), (1, .int x1), (2, .int x2)] [] (W_X2_withForms (bu_E B) a_t a_t_form r_t_form v_t_count v_t_form) := by
  unfold F_X2_withForms_4 at hF
  refine gg_iload_n (pc := 4) K 2 dX2_withForms_4 rfl rfl ?_
  refine gg_aload_n (pc := 5) K 0 dX2_withForms_5 rfl rfl ?_
  refine gg_get (pc := 6) K 0 0 i_X2 rfl rfl (by decide) q_1_141 rfl dX2_withForms_6 ?_
  refine gg_icmp_ge (pc := 9) K 32 dX2_withForms_9 rfl hF (fun c2 hF => ?_) (fun c2 hF => ?_)
  · refine gg_iload_n (pc := 32) K 1 dX2_withForms_32 rfl rfl ?_
    cases hF
    exact (hQ _ _ _ rfl).2.1 _ _ rfl rfl rfl dX2_withForms_33
  · refine gg_aload_n (pc := 12) K 0 dX2_withForms_12 rfl rfl ?_
    refine gg_iload_n (pc := 13) K 2 dX2_withForms_13 rfl rfl ?_
    obtain ⟨y3, hc4, hF⟩ := bn1_some hF
    refine gg_dV (pc := 14) (st' := [.int y3]) (rest := []) (w' := (W_X2_withForms (bu_E B) a_t a_t_form r_t_form v_t_count v_t_form)) K (c_X2_countForms (bu_l B) (bu_E B) a_t a_t_form r_t_form x2 v_t_count v_t_form hc4) ⟨rfl, rfl⟩ q_3_153 q_3_134 q_3_135 q_1_7 q_3_136 n_X2_countForms ⟨(Nat.le_of_ble_eq_true rfl), (Nat.le_of_ble_eq_true rfl)⟩ (ci := 2) rfl 0 rfl [0, 1, 2, 3, 4, 5, 6, 7, 8, 9] [true, true, true, true, true, true, true, true, true, true] rfl rfl rfl rfl rfl rfl (by decide) rfl rfl rfl ⟨Nat.zero_le _, Nat.zero_le _⟩ (Nat.le_of_ble_eq_true rfl) dX2_withForms_14 ?_
    refine gg_if_le (pc := 17) K 26 dX2_withForms_17 rfl hF (fun c5 hF => ?_) (fun c5 hF => ?_)
    · exact w_X2_withForms_26 K hQ hk4 hF
    · refine gg_iload_n (pc := 20) K 1 dX2_withForms_20 rfl rfl ?_
      refine gg_iconst (v := (1 : Int32)) (pc := 21) K dX2_withForms_21 (by decide) ?_
      refine gg_iload_n (pc := 22) K 2 dX2_withForms_22 rfl rfl ?_
      refine gg_ishl (pc := 23) K dX2_withForms_23 ?_
      refine gg_ior (pc := 24) K dX2_withForms_24 ?_
      refine gg_topi hF (fun y6 ey6 hF => ?_)
      refine gg_istore_n (pc := 25) (lv' := [(0, .ref a_t), (1, .int y6), (2, .int x2)]) K [1, 0, 2] dX2_withForms_25 rfl (by decide) rfl ?_
      exact w_X2_withForms_26 K hQ hk4 hF
def F_X2_withForms_4L  (v_t_count : Int32) (v_t_form : (Nat → Nat → Int64)) (fuel : Nat) (x1 : Int32) (x2 : Int32) : Option (Int32) := lp2_ (fun k4 x1 x2 => F_X2_withForms_4 k4 x1 x2 v_t_count v_t_form) fuel x1 x2
theorem w_X2_withForms_4L {B : bu_T} {a_t a_t_form : Nat} {r_t_form : Nat → Nat} {v_t_count : Int32} {v_t_form : (Nat → Nat → Int64)} {r : Int32}  (K : cx B cX2_withForms "SoundDesk$Meanings" rm_X2_withForms 3) (hQ : rt B cX2_withForms 3 (some .int) rm_X2_withForms (some (.int r)) (fun x => x = (W_X2_withForms (bu_E B) a_t a_t_form r_t_form v_t_count v_t_form)))  : ∀ (fuel : Nat) (x1 : Int32) (x2 : Int32), F_X2_withForms_4L  v_t_count v_t_form fuel x1 x2 = some (r) → gg B 3 0 0 4 [(0, .ref a_t), (1, .int x1), (2, .int x2)] [] (W_X2_withForms (bu_E B) a_t a_t_form r_t_form v_t_count v_t_form) := by
  intro fuel
  induction fuel with
  | zero => intro x1 x2 hF; exact absurd hF (by intro h; cases h)
  | succ fuel ih => intro x1 x2 hF; exact w_X2_withForms_4 K hQ ih hF
def F_X2_withForms_0  (v_t_count : Int32) (v_t_form : (Nat → Nat → Int64)) : Option (Int32) := F_X2_withForms_4L  v_t_count v_t_form fu_ (0 : Int32) (0 : Int32)
set_option maxHeartbeats 4000000 in
theorem w_X2_withForms_0 {B : bu_T} {a_t a_t_form : Nat} {r_t_form : Nat → Nat} {v_t_count : Int32} {v_t_form : (Nat → Nat → Int64)} {r : Int32}  (K : cx B cX2_withForms "SoundDesk$Meanings" rm_X2_withForms 3) (hQ : rt B cX2_withForms 3 (some .int) rm_X2_withForms (some (.int r)) (fun x => x = (W_X2_withForms (bu_E B) a_t a_t_form r_t_form v_t_count v_t_form)))  (hF : F_X2_withForms_0  v_t_count v_t_form = some (r)) : gg B 3 0 0 0 [(0, .ref a_t)] [] (W_X2_withForms (bu_E B) a_t a_t_form r_t_form v_t_count v_t_form) := by
  unfold F_X2_withForms_0 at hF
  refine gg_iconst (v := (0 : Int32)) (pc := 0) K dX2_withForms_0 (by decide) ?_
  refine gg_istore_n (pc := 1) (lv' := [(0, .ref a_t), (1, .int (0 : Int32))]) K [1, 0] dX2_withForms_1 rfl (by decide) rfl ?_
  refine gg_iconst (v := (0 : Int32)) (pc := 2) K dX2_withForms_2 (by decide) ?_
  refine gg_istore_n (pc := 3) (lv' := [(0, .ref a_t), (1, .int (0 : Int32)), (2, .int (0 : Int32))]) K [1, 2, 0] dX2_withForms_3 rfl (by decide) rfl ?_
  exact w_X2_withForms_4L K hQ  _ (0 : Int32) (0 : Int32) hF
def F_X2_withForms  (v_t_count : Int32) (v_t_form : (Nat → Nat → Int64)) : Option (Int32) := F_X2_withForms_0 v_t_count v_t_form
theorem n_X2_withForms : yX2_withForms.cls = "SoundDesk$Meanings" ∧ yX2_withForms.cls ≠ "java/lang/invoke/MethodHandle" ∧ yX2_withForms.cls ≠ "java/lang/invoke/VarHandle" ∧ (parseMethodDescriptor yX2_withForms.desc).map (fun d => d.parameters.length) = some 0 := by decide +kernel
theorem c_X2_withForms (l : Launch) (E : en_T) (a_t a_t_form : Nat) (r_t_form : Nat → Nat)  (v_t_count : Int32) (v_t_form : (Nat → Nat → Int64)) {r : Int32}  (hF : F_X2_withForms  v_t_count v_t_form = some (r)) : ct l yX2_withForms cX2_withForms 3 (some .int) rm_X2_withForms E [.ref a_t] (W_X2_withForms E a_t a_t_form r_t_form v_t_count v_t_form) (some (.int r)) (fun x => x = (W_X2_withForms E a_t a_t_form r_t_form v_t_count v_t_form)) := by
  refine ct_of (by decide +kernel) (Nat.le_of_ble_eq_true rfl) (fun B hl hE _ K hQ => ?_)
  subst hl; subst hE
  refine gg_sub (lv' := [(0, .ref a_t)]) [0] rfl ?_
  exact w_X2_withForms_0 K hQ hF
theorem dX2_copyFrom_0 : decode cX2_copyFrom 0 = .ok (.aload_n 0, 1) := by decide +kernel
theorem dX2_copyFrom_1 : decode cX2_copyFrom 1 = .ok (.aload_n 1, 1) := by decide +kernel
theorem dX2_copyFrom_2 : decode cX2_copyFrom 2 = .ok (.getfield 9, 3) := by decide +kernel
theorem dX2_copyFrom_5 : decode cX2_copyFrom 5 = .ok (.putfield 9, 3) := by decide +kernel
theorem dX2_copyFrom_8 : decode cX2_copyFrom 8 = .ok (.iconst 0, 1) := by decide +kernel
theorem dX2_copyFrom_9 : decode cX2_copyFrom 9 = .ok (.istore_n 2, 1) := by decide +kernel
theorem dX2_copyFrom_10 : decode cX2_copyFrom 10 = .ok (.iload_n 2, 1) := by decide +kernel
theorem dX2_copyFrom_11 : decode cX2_copyFrom 11 = .ok (.bipush 8, 2) := by decide +kernel
theorem dX2_copyFrom_13 : decode cX2_copyFrom 13 = .ok (.if_icmp .ge 28, 3) := by decide +kernel
theorem dX2_copyFrom_16 : decode cX2_copyFrom 16 = .ok (.aload_n 1, 1) := by decide +kernel
theorem dX2_copyFrom_17 : decode cX2_copyFrom 17 = .ok (.getfield 19, 3) := by decide +kernel
theorem dX2_copyFrom_20 : decode cX2_copyFrom 20 = .ok (.iload_n 2, 1) := by decide +kernel
theorem dX2_copyFrom_21 : decode cX2_copyFrom 21 = .ok (.aaload, 1) := by decide +kernel
theorem dX2_copyFrom_22 : decode cX2_copyFrom 22 = .ok (.iconst 0, 1) := by decide +kernel
theorem dX2_copyFrom_23 : decode cX2_copyFrom 23 = .ok (.aload_n 0, 1) := by decide +kernel
theorem dX2_copyFrom_24 : decode cX2_copyFrom 24 = .ok (.getfield 19, 3) := by decide +kernel
theorem dX2_copyFrom_27 : decode cX2_copyFrom 27 = .ok (.iload_n 2, 1) := by decide +kernel
theorem dX2_copyFrom_28 : decode cX2_copyFrom 28 = .ok (.aaload, 1) := by decide +kernel
theorem dX2_copyFrom_29 : decode cX2_copyFrom 29 = .ok (.iconst 0, 1) := by decide +kernel
theorem dX2_copyFrom_30 : decode cX2_copyFrom 30 = .ok (.bipush 6, 2) := by decide +kernel
theorem dX2_copyFrom_32 : decode cX2_copyFrom 32 = .ok (.invokestatic 22, 3) := by decide +kernel
theorem dX2_copyFrom_35 : decode cX2_copyFrom 35 = .ok (.iinc 2 1, 3) := by decide +kernel
theorem dX2_copyFrom_38 : decode cX2_copyFrom 38 = .ok (.goto (-28), 3) := by decide +kernel
theorem dX2_copyFrom_41 : decode cX2_copyFrom 41 = .ok (.return_, 1) := by decide +kernel
def rm_X2_copyFrom : Room := { frames := 1, cells := 0, slots := 0, locals := 60 }
def W_X2_copyFrom (E : en_T) (a_p1 a_p1_form a_t a_t_form : Nat) (r_p1_form r_t_form : Nat → Nat) (v_p1_count : Int32) (v_p1_form : (Nat → Nat → Int64)) (v_t_count : Int32) (v_t_form : (Nat → Nat → Int64)) : va_W := [(a_p1, .inr (2, [.int v_p1_count, .ref a_p1_form])), (a_p1_form, .inl (en_JJ E, 8, .inr (.inr (.inr (.inr (go_ 8 r_p1_form)))))), (r_p1_form 0, .inl (en_J E, 6, .inr (.inl (v_p1_form 0)))), (r_p1_form 1, .inl (en_J E, 6, .inr (.inl (v_p1_form 1)))), (r_p1_form 2, .inl (en_J E, 6, .inr (.inl (v_p1_form 2)))), (r_p1_form 3, .inl (en_J E, 6, .inr (.inl (v_p1_form 3)))), (r_p1_form 4, .inl (en_J E, 6, .inr (.inl (v_p1_form 4)))), (r_p1_form 5, .inl (en_J E, 6, .inr (.inl (v_p1_form 5)))), (r_p1_form 6, .inl (en_J E, 6, .inr (.inl (v_p1_form 6)))), (r_p1_form 7, .inl (en_J E, 6, .inr (.inl (v_p1_form 7)))), (a_t, .inr (2, [.int v_t_count, .ref a_t_form])), (a_t_form, .inl (en_JJ E, 8, .inr (.inr (.inr (.inr (go_ 8 r_t_form)))))), (r_t_form 0, .inl (en_J E, 6, .inr (.inl (v_t_form 0)))), (r_t_form 1, .inl (en_J E, 6, .inr (.inl (v_t_form 1)))), (r_t_form 2, .inl (en_J E, 6, .inr (.inl (v_t_form 2)))), (r_t_form 3, .inl (en_J E, 6, .inr (.inl (v_t_form 3)))), (r_t_form 4, .inl (en_J E, 6, .inr (.inl (v_t_form 4)))), (r_t_form 5, .inl (en_J E, 6, .inr (.inl (v_t_form 5)))), (r_t_form 6, .inl (en_J E, 6, .inr (.inl (v_t_form 6)))), (r_t_form 7, .inl (en_J E, 6, .inr (.inl (v_t_form 7))))]
def F_X2_copyFrom_10 (k10 : Int32 → (Nat → Nat → Int64) → Option (Int32 × (Nat → Nat → Int64))) (x2 : Int32) (v_p1_form : (Nat → Nat → Int64)) (v_t_count : Int32) (v_t_form : (Nat → Nat → Int64)) : Option (Int32 × (Nat → Nat → Int64)) := if (8 : Int32) ≤ x2 then (some (v_t_count, v_t_form)) else (ck_ x2 8 (ck_ x2 8 (cp_ (0 : Int32) (0 : Int32) (6 : Int32) 6 6 (lt_ (ur_ v_t_form (Int32.toNatClampNeg x2) (va_cpy (v_p1_form (Int32.toNatClampNeg x2)) (v_t_form (Int32.toNatClampNeg x2)) (Int32.toNatClampNeg (0 : Int32)) (Int32.toNatClampNeg (0 : Int32)) (Int32.toNatClampNeg (6 : Int32)))) (fun f4 => lt_ (x2 + (1 : Int32)) (fun y5 => k10 y5 f4))))))
set_option maxHeartbeats 4000000 in
theorem w_X2_copyFrom_10 {B : bu_T} {a_p1 a_p1_form a_t a_t_form : Nat} {r_p1_form r_t_form : Nat → Nat} {v_p1_count : Int32} {v_p1_form : (Nat → Nat → Int64)} {v_t_count : Int32} {v_t_form : (Nat → Nat → Int64)} {o_t_count : Int32} {o_t_form : (Nat → Nat → Int64)} (K : cx B cX2_copyFrom "SoundDesk$Meanings" rm_X2_copyFrom 3) (hQ : rt B cX2_copyFrom 3 none rm_X2_copyFrom none (fun x => x = (W_X2_copyFrom (bu_E B) a_p1 a_p1_form a_t a_t_form r_p1_form r_t_form v_p1_count v_p1_form o_t_count o_t_form))) {x2 : Int32} {k10 : Int32 → (Nat → Nat → Int64) → Option (Int32 × (Nat → Nat → Int64))} (hk10 : ∀ (x2 : Int32) (v_t_form : (Nat → Nat → Int64)), k10 x2 v_t_form = some (o_t_count, o_t_form) → gg B 3 0 0 10 [(0, .ref a_t), (1, .ref a_p1), (2, .int x2)] [] (W_X2_copyFrom (bu_E B) a_p1 a_p1_form a_t a_t_form r_p1_form r_t_form v_p1_count v_p1_form v_t_count v_t_form)) (hF : F_X2_copyFrom_10 k10 x2 v_p1_form v_t_count v_t_form = some (o_t_count, o_t_form)) : gg B 3 0 0 10 [(0, .ref a_t), (1, .ref a_p1), (2, .int x2)] [] (W_X2_copyFrom (bu_E B) a_p1 a_p1_form a_t a_t_form r_p1_form r_t_form v_p1_count v_p1_form v_t_count v_t_form) := by
  unfold F_X2_copyFrom_10 at hF
  refine gg_iload_n (pc := 10) K 2 dX2_copyFrom_10 rfl rfl ?_
  refine gg_bipush (v := (8 : Int32)) (pc := 11) K dX2_copyFrom_11 (by decide) ?_
  refine gg_icmp_ge (pc := 13) K 41 dX2_copyFrom_13 rfl hF (fun c1 hF => ?_) (fun c1 hF => ?_)
  · cases hF
    exact (hQ _ _ _ rfl).1 rfl rfl dX2_copyFrom_41
  · refine gg_aload_n (pc := 16) K 1 dX2_copyFrom_16 rfl rfl ?_
    refine gg_get (pc := 17) K 0 1 i_X2 rfl rfl (by decide) q_1_144 rfl dX2_copyFrom_17 ?_
    refine gg_iload_n (pc := 20) K 2 dX2_copyFrom_20 rfl rfl ?_
    refine gg_aaldJ (pc := 21) K 1 rfl dX2_copyFrom_21 hF (fun h2 hF => ?_)
    refine gg_iconst (v := (0 : Int32)) (pc := 22) K dX2_copyFrom_22 (by decide) ?_
    refine gg_aload_n (pc := 23) K 0 dX2_copyFrom_23 rfl rfl ?_
    refine gg_get (pc := 24) K 10 1 i_X2 rfl rfl (by decide) q_1_144 rfl dX2_copyFrom_24 ?_
    refine gg_iload_n (pc := 27) K 2 dX2_copyFrom_27 rfl rfl ?_
    refine gg_aaldJ (pc := 28) K 11 rfl dX2_copyFrom_28 hF (fun h3 hF => ?_)
    refine gg_iconst (v := (0 : Int32)) (pc := 29) K dX2_copyFrom_29 (by decide) ?_
    refine gg_bipush (v := (6 : Int32)) (pc := 30) K dX2_copyFrom_30 (by decide) ?_
    refine gg_cpyl (pc := 32) (wf := fun zz => (W_X2_copyFrom (bu_E B) a_p1 a_p1_form a_t a_t_form r_p1_form r_t_form v_p1_count v_p1_form v_t_count zz)) K (2 + (Int32.toNatClampNeg x2)) (12 + (Int32.toNatClampNeg x2)) 1 (fun h => ur_ v_t_form (Int32.toNatClampNeg x2) h) (lt8_ (P := fun i => (W_X2_copyFrom (bu_E B) a_p1 a_p1_form a_t a_t_form r_p1_form r_t_form v_p1_count v_p1_form v_t_count v_t_form)[2 + i]? = some (r_p1_form i, .inl (en_J (bu_E B), 6, .inr (.inl (v_p1_form i))))) rfl rfl rfl rfl rfl rfl rfl rfl _ h2) (lt8_ (P := fun i => (W_X2_copyFrom (bu_E B) a_p1 a_p1_form a_t a_t_form r_p1_form r_t_form v_p1_count v_p1_form v_t_count v_t_form)[12 + i]? = some (r_t_form i, .inl (en_J (bu_E B), 6, .inr (.inl (v_t_form i))))) rfl rfl rfl rfl rfl rfl rfl rfl _ h3) rfl rfl (fun _ _ => rfl) q_4_52 q_2_205 q_2_204 q_1_12 (Nat.le_of_ble_eq_true rfl) (Nat.le_of_ble_eq_true rfl) dX2_copyFrom_32 hF (lt8_ (P := fun i => ∀ h, (W_X2_copyFrom (bu_E B) a_p1 a_p1_form a_t a_t_form r_p1_form r_t_form v_p1_count v_p1_form v_t_count v_t_form).set (12 + i) (r_t_form i, .inl (en_J (bu_E B), 6, .inr (.inl (h)))) = (fun zz => (W_X2_copyFrom (bu_E B) a_p1 a_p1_form a_t a_t_form r_p1_form r_t_form v_p1_count v_p1_form v_t_count zz)) (ur_ v_t_form i h)) (fun _ => rfl) (fun _ => rfl) (fun _ => rfl) (fun _ => rfl) (fun _ => rfl) (fun _ => rfl) (fun _ => rfl) (fun _ => rfl) _ h3) (fun f4 ef4 hF => ?_)
    refine gg_iinc (pc := 35) (v := (1 : Int32)) (lw := fun zz => [(0, .ref a_t), (1, .ref a_p1), (2, .int zz)]) K 2 [1, 2, 0] dX2_copyFrom_35 rfl rfl (by decide) hF (fun _ => rfl) (fun y5 ey5 hF => ?_)
    refine gg_goto (pc := 38) K 10 dX2_copyFrom_38 rfl ?_
    exact hk10 y5 f4 hF
def F_X2_copyFrom_10L  (v_p1_form : (Nat → Nat → Int64)) (v_t_count : Int32) (fuel : Nat) (x2 : Int32) (v_t_form : (Nat → Nat → Int64)) : Option (Int32 × (Nat → Nat → Int64)) := lp2_ (fun k10 x2 v_t_form => F_X2_copyFrom_10 k10 x2 v_p1_form v_t_count v_t_form) fuel x2 v_t_form
theorem w_X2_copyFrom_10L {B : bu_T} {a_p1 a_p1_form a_t a_t_form : Nat} {r_p1_form r_t_form : Nat → Nat} {v_p1_count : Int32} {v_p1_form : (Nat → Nat → Int64)} {v_t_count : Int32} {o_t_count : Int32} {o_t_form : (Nat → Nat → Int64)} (K : cx B cX2_copyFrom "SoundDesk$Meanings" rm_X2_copyFrom 3) (hQ : rt B cX2_copyFrom 3 none rm_X2_copyFrom none (fun x => x = (W_X2_copyFrom (bu_E B) a_p1 a_p1_form a_t a_t_form r_p1_form r_t_form v_p1_count v_p1_form o_t_count o_t_form)))  : ∀ (fuel : Nat) (x2 : Int32) (v_t_form : (Nat → Nat → Int64)), F_X2_copyFrom_10L  v_p1_form v_t_count fuel x2 v_t_form = some (o_t_count, o_t_form) → gg B 3 0 0 10 [(0, .ref a_t), (1, .ref a_p1), (2, .int x2)] [] (W_X2_copyFrom (bu_E B) a_p1 a_p1_form a_t a_t_form r_p1_form r_t_form v_p1_count v_p1_form v_t_count v_t_form) := by
  intro fuel
  induction fuel with
  | zero => intro x2 v_t_form hF; exact absurd hF (by intro h; cases h)
  | succ fuel ih => intro x2 v_t_form hF; exact w_X2_copyFrom_10 K hQ ih hF
def F_X2_copyFrom_0  (v_p1_count : Int32) (v_p1_form : (Nat → Nat → Int64)) (v_t_count : Int32) (v_t_form : (Nat → Nat → Int64)) : Option (Int32 × (Nat → Nat → Int64)) := lt_ v_p1_count (fun y6 => F_X2_copyFrom_10L  v_p1_form y6 fu_ (0 : Int32) v_t_form)
set_option maxHeartbeats 4000000 in
theorem w_X2_copyFrom_0 {B : bu_T} {a_p1 a_p1_form a_t a_t_form : Nat} {r_p1_form r_t_form : Nat → Nat} {v_p1_count : Int32} {v_p1_form : (Nat → Nat → Int64)} {v_t_count : Int32} {v_t_form : (Nat → Nat → Int64)} {o_t_count : Int32} {o_t_form : (Nat → Nat → Int64)} (K : cx B cX2_copyFrom "SoundDesk$Meanings" rm_X2_copyFrom 3) (hQ : rt B cX2_copyFrom 3 none rm_X2_copyFrom none (fun x => x = (W_X2_copyFrom (bu_E B) a_p1 a_p1_form a_t a_t_form r_p1_form r_t_form v_p1_count v_p1_form o_t_count o_t_form)))  (hF : F_X2_copyFrom_0  v_p1_count v_p1_form v_t_count v_t_form = some (o_t_count, o_t_form)) : gg B 3 0 0 0 [(0, .ref a_t), (1, .ref a_p1)] [] (W_X2_copyFrom (bu_E B) a_p1 a_p1_form a_t a_t_form r_p1_form r_t_form v_p1_count v_p1_form v_t_count v_t_form) := by
  unfold F_X2_copyFrom_0 at hF
  refine gg_aload_n (pc := 0) K 0 dX2_copyFrom_0 rfl rfl ?_
  refine gg_aload_n (pc := 1) K 1 dX2_copyFrom_1 rfl rfl ?_
  refine gg_get (pc := 2) K 0 0 i_X2 rfl rfl (by decide) q_1_141 rfl dX2_copyFrom_2 ?_
  refine gg_puti (pc := 5) (wf := fun zz => (W_X2_copyFrom (bu_E B) a_p1 a_p1_form a_t a_t_form r_p1_form r_t_form v_p1_count v_p1_form zz v_t_form)) K 10 0 i_X2 tyX2_ok nmX2 rfl rfl (by decide) q_1_141 rfl (by decide +kernel) (Nat.le_of_ble_eq_true rfl) dX2_copyFrom_5 hF (fun _ => rfl) (fun y6 ey6 hF => ?_)
  refine gg_iconst (v := (0 : Int32)) (pc := 8) K dX2_copyFrom_8 (by decide) ?_
  refine gg_istore_n (pc := 9) (lv' := [(0, .ref a_t), (1, .ref a_p1), (2, .int (0 : Int32))]) K [1, 2, 0] dX2_copyFrom_9 rfl (by decide) rfl ?_
  exact w_X2_copyFrom_10L K hQ  _ (0 : Int32) v_t_form hF
def F_X2_copyFrom  (v_p1_count : Int32) (v_p1_form : (Nat → Nat → Int64)) (v_t_count : Int32) (v_t_form : (Nat → Nat → Int64)) : Option (Int32 × (Nat → Nat → Int64)) := F_X2_copyFrom_0 v_p1_count v_p1_form v_t_count v_t_form
theorem n_X2_copyFrom : yX2_copyFrom.cls = "SoundDesk$Meanings" ∧ yX2_copyFrom.cls ≠ "java/lang/invoke/MethodHandle" ∧ yX2_copyFrom.cls ≠ "java/lang/invoke/VarHandle" ∧ (parseMethodDescriptor yX2_copyFrom.desc).map (fun d => d.parameters.length) = some 1 := by decide +kernel
theorem c_X2_copyFrom (l : Launch) (E : en_T) (a_p1 a_p1_form a_t a_t_form : Nat) (r_p1_form r_t_form : Nat → Nat)  (v_p1_count : Int32) (v_p1_form : (Nat → Nat → Int64)) (v_t_count : Int32) (v_t_form : (Nat → Nat → Int64)) {o_t_count : Int32} {o_t_form : (Nat → Nat → Int64)} (hF : F_X2_copyFrom  v_p1_count v_p1_form v_t_count v_t_form = some (o_t_count, o_t_form)) : ct l yX2_copyFrom cX2_copyFrom 3 none rm_X2_copyFrom E [.ref a_t, .ref a_p1] (W_X2_copyFrom E a_p1 a_p1_form a_t a_t_form r_p1_form r_t_form v_p1_count v_p1_form v_t_count v_t_form) none (fun x => x = (W_X2_copyFrom E a_p1 a_p1_form a_t a_t_form r_p1_form r_t_form v_p1_count v_p1_form o_t_count o_t_form)) := by
  refine ct_of (by decide +kernel) (Nat.le_of_ble_eq_true rfl) (fun B hl hE _ K hQ => ?_)
  subst hl; subst hE
  refine gg_sub (lv' := [(0, .ref a_t), (1, .ref a_p1)]) [0, 1] rfl ?_
  exact w_X2_copyFrom_0 K hQ hF
theorem dX2_has_0 : decode cX2_has 0 = .ok (.iload_n 1, 1) := by decide +kernel
theorem dX2_has_1 : decode cX2_has 1 = .ok (.ifCond .lt 15, 3) := by decide +kernel
theorem dX2_has_4 : decode cX2_has 4 = .ok (.iload_n 1, 1) := by decide +kernel
theorem dX2_has_5 : decode cX2_has 5 = .ok (.aload_n 0, 1) := by decide +kernel
theorem dX2_has_6 : decode cX2_has 6 = .ok (.getfield 9, 3) := by decide +kernel
theorem dX2_has_9 : decode cX2_has 9 = .ok (.if_icmp .ge 7, 3) := by decide +kernel
theorem dX2_has_12 : decode cX2_has 12 = .ok (.iconst 1, 1) := by decide +kernel
theorem dX2_has_13 : decode cX2_has 13 = .ok (.goto 4, 3) := by decide +kernel
theorem dX2_has_16 : decode cX2_has 16 = .ok (.iconst 0, 1) := by decide +kernel
theorem dX2_has_17 : decode cX2_has 17 = .ok (.ireturn, 1) := by decide +kernel
def rm_X2_has : Room := { frames := 0, cells := 0, slots := 0, locals := 0 }
def W_X2_has (E : en_T) (a_t a_t_form : Nat) (v_t_count : Int32) : va_W := [(a_t, .inr (2, [.int v_t_count, .ref a_t_form]))]
def F_X2_has_0  (x1 : Int32) (v_t_count : Int32) : Option (Int32) := if x1 < (0 : Int32) then (some ((0 : Int32))) else (if v_t_count ≤ x1 then (some ((0 : Int32))) else (some ((1 : Int32))))
set_option maxHeartbeats 4000000 in
theorem w_X2_has_0 {B : bu_T} {a_t a_t_form : Nat} {v_t_count : Int32} {r : Int32}  (K : cx B cX2_has "SoundDesk$Meanings" rm_X2_has 2) (hQ : rt B cX2_has 2 (some .boolean) rm_X2_has (some (.int r)) (fun x => x = (W_X2_has (bu_E B) a_t a_t_form v_t_count))) {x1 : Int32} (hF : F_X2_has_0  x1 v_t_count = some (r)) : gg B 2 0 0 0 [(0, .ref a_t), (1, .int x1)] [] (W_X2_has (bu_E B) a_t a_t_form v_t_count) := by
  unfold F_X2_has_0 at hF
  refine gg_iload_n (pc := 0) K 1 dX2_has_0 rfl rfl ?_
  refine gg_if_lt (pc := 1) K 16 dX2_has_1 rfl hF (fun c1 hF => ?_) (fun c1 hF => ?_)
  · refine gg_iconst (v := (0 : Int32)) (pc := 16) K dX2_has_16 (by decide) ?_
    cases hF
    exact (hQ _ _ _ rfl).2.1 _ _ rfl rfl rfl dX2_has_17
  · refine gg_iload_n (pc := 4) K 1 dX2_has_4 rfl rfl ?_
    refine gg_aload_n (pc := 5) K 0 dX2_has_5 rfl rfl ?_
    refine gg_get (pc := 6) K 0 0 i_X2 rfl rfl (by decide) q_1_141 rfl dX2_has_6 ?_
    refine gg_icmp_ge (pc := 9) K 16 dX2_has_9 rfl hF (fun c2 hF => ?_) (fun c2 hF => ?_)
    · refine gg_iconst (v := (0 : Int32)) (pc := 16) K dX2_has_16 (by decide) ?_
      cases hF
      exact (hQ _ _ _ rfl).2.1 _ _ rfl rfl rfl dX2_has_17
    · refine gg_iconst (v := (1 : Int32)) (pc := 12) K dX2_has_12 (by decide) ?_
      refine gg_goto (pc := 13) K 17 dX2_has_13 rfl ?_
      cases hF
      exact (hQ _ _ _ rfl).2.1 _ _ rfl rfl rfl dX2_has_17
def F_X2_has (x1 : Int32) (v_t_count : Int32) : Option (Int32) := F_X2_has_0 x1 v_t_count
theorem n_X2_has : yX2_has.cls = "SoundDesk$Meanings" ∧ yX2_has.cls ≠ "java/lang/invoke/MethodHandle" ∧ yX2_has.cls ≠ "java/lang/invoke/VarHandle" ∧ (parseMethodDescriptor yX2_has.desc).map (fun d => d.parameters.length) = some 1 := by decide +kernel
theorem c_X2_has (l : Launch) (E : en_T) (a_t a_t_form : Nat) (x1 : Int32) (v_t_count : Int32) {r : Int32}  (hF : F_X2_has x1 v_t_count = some (r)) : ct l yX2_has cX2_has 2 (some .boolean) rm_X2_has E [.ref a_t, .int x1] (W_X2_has E a_t a_t_form v_t_count) (some (.int r)) (fun x => x = (W_X2_has E a_t a_t_form v_t_count)) := by
  refine ct_of (by decide +kernel) (Nat.le_of_ble_eq_true rfl) (fun B hl hE _ K hQ => ?_)
  subst hl; subst hE
  refine gg_sub (lv' := [(0, .ref a_t), (1, .int x1)]) [0, 1] rfl ?_
  exact w_X2_has_0 K hQ hF
theorem dX2_add_0 : decode cX2_add 0 = .ok (.aload_n 0, 1) := by decide +kernel
theorem dX2_add_1 : decode cX2_add 1 = .ok (.getfield 9, 3) := by decide +kernel
theorem dX2_add_4 : decode cX2_add 4 = .ok (.istore_n 1, 1) := by decide +kernel
theorem dX2_add_5 : decode cX2_add 5 = .ok (.iconst 0, 1) := by decide +kernel
theorem dX2_add_6 : decode cX2_add 6 = .ok (.istore_n 2, 1) := by decide +kernel
theorem dX2_add_7 : decode cX2_add 7 = .ok (.iload_n 2, 1) := by decide +kernel
theorem dX2_add_8 : decode cX2_add 8 = .ok (.bipush 6, 2) := by decide +kernel
theorem dX2_add_10 : decode cX2_add 10 = .ok (.if_icmp .ge 18, 3) := by decide +kernel
theorem dX2_add_13 : decode cX2_add 13 = .ok (.aload_n 0, 1) := by decide +kernel
theorem dX2_add_14 : decode cX2_add 14 = .ok (.getfield 19, 3) := by decide +kernel
theorem dX2_add_17 : decode cX2_add 17 = .ok (.iload_n 1, 1) := by decide +kernel
theorem dX2_add_18 : decode cX2_add 18 = .ok (.aaload, 1) := by decide +kernel
theorem dX2_add_19 : decode cX2_add 19 = .ok (.iload_n 2, 1) := by decide +kernel
theorem dX2_add_20 : decode cX2_add 20 = .ok (.lconst 0, 1) := by decide +kernel
theorem dX2_add_21 : decode cX2_add 21 = .ok (.lastore, 1) := by decide +kernel
theorem dX2_add_22 : decode cX2_add 22 = .ok (.iinc 2 1, 3) := by decide +kernel
theorem dX2_add_25 : decode cX2_add 25 = .ok (.goto (-18), 3) := by decide +kernel
theorem dX2_add_28 : decode cX2_add 28 = .ok (.aload_n 0, 1) := by decide +kernel
theorem dX2_add_29 : decode cX2_add 29 = .ok (.dup, 1) := by decide +kernel
theorem dX2_add_30 : decode cX2_add 30 = .ok (.getfield 9, 3) := by decide +kernel
theorem dX2_add_33 : decode cX2_add 33 = .ok (.iconst 1, 1) := by decide +kernel
theorem dX2_add_34 : decode cX2_add 34 = .ok (.iadd, 1) := by decide +kernel
theorem dX2_add_35 : decode cX2_add 35 = .ok (.putfield 9, 3) := by decide +kernel
theorem dX2_add_38 : decode cX2_add 38 = .ok (.iload_n 1, 1) := by decide +kernel
theorem dX2_add_39 : decode cX2_add 39 = .ok (.ireturn, 1) := by decide +kernel
def rm_X2_add : Room := { frames := 0, cells := 0, slots := 0, locals := 0 }
def W_X2_add (E : en_T) (a_t a_t_form : Nat) (r_t_form : Nat → Nat) (v_t_count : Int32) (v_t_form : (Nat → Nat → Int64)) : va_W := [(a_t, .inr (2, [.int v_t_count, .ref a_t_form])), (a_t_form, .inl (en_JJ E, 8, .inr (.inr (.inr (.inr (go_ 8 r_t_form)))))), (r_t_form 0, .inl (en_J E, 6, .inr (.inl (v_t_form 0)))), (r_t_form 1, .inl (en_J E, 6, .inr (.inl (v_t_form 1)))), (r_t_form 2, .inl (en_J E, 6, .inr (.inl (v_t_form 2)))), (r_t_form 3, .inl (en_J E, 6, .inr (.inl (v_t_form 3)))), (r_t_form 4, .inl (en_J E, 6, .inr (.inl (v_t_form 4)))), (r_t_form 5, .inl (en_J E, 6, .inr (.inl (v_t_form 5)))), (r_t_form 6, .inl (en_J E, 6, .inr (.inl (v_t_form 6)))), (r_t_form 7, .inl (en_J E, 6, .inr (.inl (v_t_form 7))))]
def F_X2_add_7 (k7 : Int32 → Int32 → (Nat → Nat → Int64) → Option (Int32 × Int32 × (Nat → Nat → Int64))) (x1 : Int32) (x2 : Int32) (v_t_count : Int32) (v_t_form : (Nat → Nat → Int64)) : Option (Int32 × Int32 × (Nat → Nat → Int64)) := if (6 : Int32) ≤ x2 then (lt_ (v_t_count + (1 : Int32)) (fun y2 => some (x1, y2, v_t_form))) else (ck_ x1 8 (ck_ x2 6 (lt_ (ur_ v_t_form (Int32.toNatClampNeg x1) (vp_updL (v_t_form (Int32.toNatClampNeg x1)) (Int32.toNatClampNeg x2) (0 : Int64))) (fun f4 => lt_ (x2 + (1 : Int32)) (fun y5 => k7 y5 v_t_count f4)))))
set_option maxHeartbeats 4000000 in
theorem w_X2_add_7 {B : bu_T} {a_t a_t_form : Nat} {r_t_form : Nat → Nat} {v_t_count : Int32} {v_t_form : (Nat → Nat → Int64)} {r : Int32} {o_t_count : Int32} {o_t_form : (Nat → Nat → Int64)} (K : cx B cX2_add "SoundDesk$Meanings" rm_X2_add 3) (hQ : rt B cX2_add 3 (some .int) rm_X2_add (some (.int r)) (fun x => x = (W_X2_add (bu_E B) a_t a_t_form r_t_form o_t_count o_t_form))) {x1 : Int32} {x2 : Int32} {k7 : Int32 → Int32 → (Nat → Nat → Int64) → Option (Int32 × Int32 × (Nat → Nat → Int64))} (hk7 : ∀ (x2 : Int32) (v_t_count : Int32) (v_t_form : (Nat → Nat → Int64)), k7 x2 v_t_count v_t_form = some (r, o_t_count, o_t_form) → gg B 3 0 0 7 [(0, .ref a_t), (1, .int x1), (2, .int x2)] [] (W_X2_add (bu_E B) a_t a_t_form r_t_form v_t_count v_t_form)) (hF : F_X2_add_7 k7 x1 x2 v_t_count v_t_form = some (r, o_t_count, o_t_form)) : gg B 3 0 0 7 [(0, .ref a_t), (1, .int x1), (2, .int x2)] [] (W_X2_add (bu_E B) a_t a_t_form r_t_form v_t_count v_t_form) := by
  unfold F_X2_add_7 at hF
  refine gg_iload_n (pc := 7) K 2 dX2_add_7 rfl rfl ?_
  refine gg_bipush (v := (6 : Int32)) (pc := 8) K dX2_add_8 (by decide) ?_
  refine gg_icmp_ge (pc := 10) K 28 dX2_add_10 rfl hF (fun c1 hF => ?_) (fun c1 hF => ?_)
  · refine gg_aload_n (pc := 28) K 0 dX2_add_28 rfl rfl ?_
    refine gg_dup (pc := 29) K dX2_add_29 rfl ?_
    refine gg_get (pc := 30) K 0 0 i_X2 rfl rfl (by decide) q_1_141 rfl dX2_add_30 ?_
    refine gg_iconst (v := (1 : Int32)) (pc := 33) K dX2_add_33 (by decide) ?_
    refine gg_iadd (pc := 34) K dX2_add_34 ?_
    refine gg_puti (pc := 35) (wf := fun zz => (W_X2_add (bu_E B) a_t a_t_form r_t_form zz v_t_form)) K 0 0 i_X2 tyX2_ok nmX2 rfl rfl (by decide) q_1_141 rfl (by decide +kernel) (Nat.le_of_ble_eq_true rfl) dX2_add_35 hF (fun _ => rfl) (fun y2 ey2 hF => ?_)
    refine gg_iload_n (pc := 38) K 1 dX2_add_38 rfl rfl ?_
    cases hF
    exact (hQ _ _ _ rfl).2.1 _ _ rfl rfl rfl dX2_add_39
  · refine gg_aload_n (pc := 13) K 0 dX2_add_13 rfl rfl ?_
    refine gg_get (pc := 14) K 0 1 i_X2 rfl rfl (by decide) q_1_144 rfl dX2_add_14 ?_
    refine gg_iload_n (pc := 17) K 1 dX2_add_17 rfl rfl ?_
    refine gg_aaldJ (pc := 18) K 1 rfl dX2_add_18 hF (fun h3 hF => ?_)
    refine gg_iload_n (pc := 19) K 2 dX2_add_19 rfl rfl ?_
    refine gg_lconst (v := (0 : Int64)) (pc := 20) K dX2_add_20 (by decide) ?_
    refine gg_rlst (pc := 21) (wf := fun zz => (W_X2_add (bu_E B) a_t a_t_form r_t_form v_t_count zz)) K 2 (lt8_ rfl rfl rfl rfl rfl rfl rfl rfl) h3 dX2_add_21 hF (lt8_ (fun _ => rfl) (fun _ => rfl) (fun _ => rfl) (fun _ => rfl) (fun _ => rfl) (fun _ => rfl) (fun _ => rfl) (fun _ => rfl)) (fun f4 ef4 hF => ?_)
    refine gg_iinc (pc := 22) (v := (1 : Int32)) (lw := fun zz => [(0, .ref a_t), (1, .int x1), (2, .int zz)]) K 2 [1, 2, 0] dX2_add_22 rfl rfl (by decide) hF (fun _ => rfl) (fun y5 ey5 hF => ?_)
    refine gg_goto (pc := 25) K 7 dX2_add_25 rfl ?_
    exact hk7 y5 v_t_count f4 hF
def F_X2_add_7L  (x1 : Int32) (fuel : Nat) (x2 : Int32) (v_t_count : Int32) (v_t_form : (Nat → Nat → Int64)) : Option (Int32 × Int32 × (Nat → Nat → Int64)) := lp3_ (fun k7 x2 v_t_count v_t_form => F_X2_add_7 k7 x1 x2 v_t_count v_t_form) fuel x2 v_t_count v_t_form
theorem w_X2_add_7L {B : bu_T} {a_t a_t_form : Nat} {r_t_form : Nat → Nat} {r : Int32} {o_t_count : Int32} {o_t_form : (Nat → Nat → Int64)} (K : cx B cX2_add "SoundDesk$Meanings" rm_X2_add 3) (hQ : rt B cX2_add 3 (some .int) rm_X2_add (some (.int r)) (fun x => x = (W_X2_add (bu_E B) a_t a_t_form r_t_form o_t_count o_t_form))) {x1 : Int32} : ∀ (fuel : Nat) (x2 : Int32) (v_t_count : Int32) (v_t_form : (Nat → Nat → Int64)), F_X2_add_7L  x1 fuel x2 v_t_count v_t_form = some (r, o_t_count, o_t_form) → gg B 3 0 0 7 [(0, .ref a_t), (1, .int x1), (2, .int x2)] [] (W_X2_add (bu_E B) a_t a_t_form r_t_form v_t_count v_t_form) := by
  intro fuel
  induction fuel with
  | zero => intro x2 v_t_count v_t_form hF; exact absurd hF (by intro h; cases h)
  | succ fuel ih => intro x2 v_t_count v_t_form hF; exact w_X2_add_7 K hQ ih hF
def F_X2_add_0  (v_t_count : Int32) (v_t_form : (Nat → Nat → Int64)) : Option (Int32 × Int32 × (Nat → Nat → Int64)) := F_X2_add_7L  v_t_count fu_ (0 : Int32) v_t_count v_t_form
set_option maxHeartbeats 4000000 in
theorem w_X2_add_0 {B : bu_T} {a_t a_t_form : Nat} {r_t_form : Nat → Nat} {v_t_count : Int32} {v_t_form : (Nat → Nat → Int64)} {r : Int32} {o_t_count : Int32} {o_t_form : (Nat → Nat → Int64)} (K : cx B cX2_add "SoundDesk$Meanings" rm_X2_add 3) (hQ : rt B cX2_add 3 (some .int) rm_X2_add (some (.int r)) (fun x => x = (W_X2_add (bu_E B) a_t a_t_form r_t_form o_t_count o_t_form)))  (hF : F_X2_add_0  v_t_count v_t_form = some (r, o_t_count, o_t_form)) : gg B 3 0 0 0 [(0, .ref a_t)] [] (W_X2_add (bu_E B) a_t a_t_form r_t_form v_t_count v_t_form) := by
  unfold F_X2_add_0 at hF
  refine gg_aload_n (pc := 0) K 0 dX2_add_0 rfl rfl ?_
  refine gg_get (pc := 1) K 0 0 i_X2 rfl rfl (by decide) q_1_141 rfl dX2_add_1 ?_
  refine gg_istore_n (pc := 4) (lv' := [(0, .ref a_t), (1, .int v_t_count)]) K [1, 0] dX2_add_4 rfl (by decide) rfl ?_
  refine gg_iconst (v := (0 : Int32)) (pc := 5) K dX2_add_5 (by decide) ?_
  refine gg_istore_n (pc := 6) (lv' := [(0, .ref a_t), (1, .int v_t_count), (2, .int (0 : Int32))]) K [1, 2, 0] dX2_add_6 rfl (by decide) rfl ?_
  exact w_X2_add_7L K hQ  _ (0 : Int32) v_t_count v_t_form hF
def F_X2_add  (v_t_count : Int32) (v_t_form : (Nat → Nat → Int64)) : Option (Int32 × Int32 × (Nat → Nat → Int64)) := F_X2_add_0 v_t_count v_t_form
theorem n_X2_add : yX2_add.cls = "SoundDesk$Meanings" ∧ yX2_add.cls ≠ "java/lang/invoke/MethodHandle" ∧ yX2_add.cls ≠ "java/lang/invoke/VarHandle" ∧ (parseMethodDescriptor yX2_add.desc).map (fun d => d.parameters.length) = some 0 := by decide +kernel
theorem c_X2_add (l : Launch) (E : en_T) (a_t a_t_form : Nat) (r_t_form : Nat → Nat)  (v_t_count : Int32) (v_t_form : (Nat → Nat → Int64)) {r : Int32} {o_t_count : Int32} {o_t_form : (Nat → Nat → Int64)} (hF : F_X2_add  v_t_count v_t_form = some (r, o_t_count, o_t_form)) : ct l yX2_add cX2_add 3 (some .int) rm_X2_add E [.ref a_t] (W_X2_add E a_t a_t_form r_t_form v_t_count v_t_form) (some (.int r)) (fun x => x = (W_X2_add E a_t a_t_form r_t_form o_t_count o_t_form)) := by
  refine ct_of (by decide +kernel) (Nat.le_of_ble_eq_true rfl) (fun B hl hE _ K hQ => ?_)
  subst hl; subst hE
  refine gg_sub (lv' := [(0, .ref a_t)]) [0] rfl ?_
  exact w_X2_add_0 K hQ hF
theorem dX3_copyFrom_0 : decode cX3_copyFrom 0 = .ok (.aload_n 0, 1) := by decide +kernel
theorem dX3_copyFrom_1 : decode cX3_copyFrom 1 = .ok (.aload_n 1, 1) := by decide +kernel
theorem dX3_copyFrom_2 : decode cX3_copyFrom 2 = .ok (.getfield 7, 3) := by decide +kernel
theorem dX3_copyFrom_5 : decode cX3_copyFrom 5 = .ok (.putfield 7, 3) := by decide +kernel
theorem dX3_copyFrom_8 : decode cX3_copyFrom 8 = .ok (.aload_n 1, 1) := by decide +kernel
theorem dX3_copyFrom_9 : decode cX3_copyFrom 9 = .ok (.getfield 15, 3) := by decide +kernel
theorem dX3_copyFrom_12 : decode cX3_copyFrom 12 = .ok (.iconst 0, 1) := by decide +kernel
theorem dX3_copyFrom_13 : decode cX3_copyFrom 13 = .ok (.aload_n 0, 1) := by decide +kernel
theorem dX3_copyFrom_14 : decode cX3_copyFrom 14 = .ok (.getfield 15, 3) := by decide +kernel
theorem dX3_copyFrom_17 : decode cX3_copyFrom 17 = .ok (.iconst 0, 1) := by decide +kernel
theorem dX3_copyFrom_18 : decode cX3_copyFrom 18 = .ok (.bipush 36, 2) := by decide +kernel
theorem dX3_copyFrom_20 : decode cX3_copyFrom 20 = .ok (.invokestatic 23, 3) := by decide +kernel
theorem dX3_copyFrom_23 : decode cX3_copyFrom 23 = .ok (.aload_n 1, 1) := by decide +kernel
theorem dX3_copyFrom_24 : decode cX3_copyFrom 24 = .ok (.getfield 19, 3) := by decide +kernel
theorem dX3_copyFrom_27 : decode cX3_copyFrom 27 = .ok (.iconst 0, 1) := by decide +kernel
theorem dX3_copyFrom_28 : decode cX3_copyFrom 28 = .ok (.aload_n 0, 1) := by decide +kernel
theorem dX3_copyFrom_29 : decode cX3_copyFrom 29 = .ok (.getfield 19, 3) := by decide +kernel
theorem dX3_copyFrom_32 : decode cX3_copyFrom 32 = .ok (.iconst 0, 1) := by decide +kernel
theorem dX3_copyFrom_33 : decode cX3_copyFrom 33 = .ok (.bipush 36, 2) := by decide +kernel
theorem dX3_copyFrom_35 : decode cX3_copyFrom 35 = .ok (.invokestatic 23, 3) := by decide +kernel
theorem dX3_copyFrom_38 : decode cX3_copyFrom 38 = .ok (.return_, 1) := by decide +kernel
def rm_X3_copyFrom : Room := { frames := 1, cells := 0, slots := 0, locals := 60 }
def W_X3_copyFrom (E : en_T) (a_p1 a_p1_word a_p1_touched a_t a_t_word a_t_touched : Nat) (v_p1_count : Int32) (v_p1_touched : (Nat → Int32)) (v_p1_word : (Nat → Int64)) (v_t_count : Int32) (v_t_touched : (Nat → Int32)) (v_t_word : (Nat → Int64)) : va_W := [(a_p1, .inr (3, [.int v_p1_count, .ref a_p1_word, .ref a_p1_touched])), (a_p1_touched, .inl (en_I E, 36, .inl v_p1_touched)), (a_p1_word, .inl (en_J E, 36, .inr (.inl v_p1_word))), (a_t, .inr (3, [.int v_t_count, .ref a_t_word, .ref a_t_touched])), (a_t_touched, .inl (en_I E, 36, .inl v_t_touched)), (a_t_word, .inl (en_J E, 36, .inr (.inl v_t_word)))]
def F_X3_copyFrom_0  (v_p1_count : Int32) (v_p1_touched : (Nat → Int32)) (v_p1_word : (Nat → Int64)) (v_t_count : Int32) (v_t_touched : (Nat → Int32)) (v_t_word : (Nat → Int64)) : Option (Int32 × (Nat → Int32) × (Nat → Int64)) := lt_ v_p1_count (fun y1 => cp_ (0 : Int32) (0 : Int32) (36 : Int32) 36 36 (lt_ (va_cpy v_p1_word v_t_word (Int32.toNatClampNeg (0 : Int32)) (Int32.toNatClampNeg (0 : Int32)) (Int32.toNatClampNeg (36 : Int32))) (fun f2 => cp_ (0 : Int32) (0 : Int32) (36 : Int32) 36 36 (lt_ (va_cpy v_p1_touched v_t_touched (Int32.toNatClampNeg (0 : Int32)) (Int32.toNatClampNeg (0 : Int32)) (Int32.toNatClampNeg (36 : Int32))) (fun f3 => some (y1, f3, f2))))))
set_option maxHeartbeats 4000000 in
theorem w_X3_copyFrom_0 {B : bu_T} {a_p1 a_p1_word a_p1_touched a_t a_t_word a_t_touched : Nat} {v_p1_count : Int32} {v_p1_touched : (Nat → Int32)} {v_p1_word : (Nat → Int64)} {v_t_count : Int32} {v_t_touched : (Nat → Int32)} {v_t_word : (Nat → Int64)} {o_t_count : Int32} {o_t_touched : (Nat → Int32)} {o_t_word : (Nat → Int64)} (K : cx B cX3_copyFrom "SoundDesk$Path" rm_X3_copyFrom 2) (hQ : rt B cX3_copyFrom 2 none rm_X3_copyFrom none (fun x => x = (W_X3_copyFrom (bu_E B) a_p1 a_p1_word a_p1_touched a_t a_t_word a_t_touched v_p1_count v_p1_touched v_p1_word o_t_count o_t_touched o_t_word)))  (hF : F_X3_copyFrom_0  v_p1_count v_p1_touched v_p1_word v_t_count v_t_touched v_t_word = some (o_t_count, o_t_touched, o_t_word)) : gg B 2 0 0 0 [(0, .ref a_t), (1, .ref a_p1)] [] (W_X3_copyFrom (bu_E B) a_p1 a_p1_word a_p1_touched a_t a_t_word a_t_touched v_p1_count v_p1_touched v_p1_word v_t_count v_t_touched v_t_word) := by
  unfold F_X3_copyFrom_0 at hF
  refine gg_aload_n (pc := 0) K 0 dX3_copyFrom_0 rfl rfl ?_
  refine gg_aload_n (pc := 1) K 1 dX3_copyFrom_1 rfl rfl ?_
  refine gg_get (pc := 2) K 0 0 i_X3 rfl rfl (by decide) q_1_158 rfl dX3_copyFrom_2 ?_
  refine gg_puti (pc := 5) (wf := fun zz => (W_X3_copyFrom (bu_E B) a_p1 a_p1_word a_p1_touched a_t a_t_word a_t_touched v_p1_count v_p1_touched v_p1_word zz v_t_touched v_t_word)) K 3 0 i_X3 tyX3_ok nmX3 rfl rfl (by decide) q_1_158 rfl (by decide +kernel) (Nat.le_of_ble_eq_true rfl) dX3_copyFrom_5 hF (fun _ => rfl) (fun y1 ey1 hF => ?_)
  refine gg_aload_n (pc := 8) K 1 dX3_copyFrom_8 rfl rfl ?_
  refine gg_get (pc := 9) K 0 1 i_X3 rfl rfl (by decide) q_1_161 rfl dX3_copyFrom_9 ?_
  refine gg_iconst (v := (0 : Int32)) (pc := 12) K dX3_copyFrom_12 (by decide) ?_
  refine gg_aload_n (pc := 13) K 0 dX3_copyFrom_13 rfl rfl ?_
  refine gg_get (pc := 14) K 3 1 i_X3 rfl rfl (by decide) q_1_161 rfl dX3_copyFrom_14 ?_
  refine gg_iconst (v := (0 : Int32)) (pc := 17) K dX3_copyFrom_17 (by decide) ?_
  refine gg_bipush (v := (36 : Int32)) (pc := 18) K dX3_copyFrom_18 (by decide) ?_
  refine gg_cpyl (pc := 20) (wf := fun zz => (W_X3_copyFrom (bu_E B) a_p1 a_p1_word a_p1_touched a_t a_t_word a_t_touched v_p1_count v_p1_touched v_p1_word y1 v_t_touched zz)) K 2 5 1 (fun h => h) rfl rfl rfl rfl (fun _ _ => rfl) q_3_38 q_2_205 q_2_204 q_1_12 (Nat.le_of_ble_eq_true rfl) (Nat.le_of_ble_eq_true rfl) dX3_copyFrom_20 hF (fun _ => rfl) (fun f2 ef2 hF => ?_)
  refine gg_aload_n (pc := 23) K 1 dX3_copyFrom_23 rfl rfl ?_
  refine gg_get (pc := 24) K 0 2 i_X3 rfl rfl (by decide) q_1_164 rfl dX3_copyFrom_24 ?_
  refine gg_iconst (v := (0 : Int32)) (pc := 27) K dX3_copyFrom_27 (by decide) ?_
  refine gg_aload_n (pc := 28) K 0 dX3_copyFrom_28 rfl rfl ?_
  refine gg_get (pc := 29) K 3 2 i_X3 rfl rfl (by decide) q_1_164 rfl dX3_copyFrom_29 ?_
  refine gg_iconst (v := (0 : Int32)) (pc := 32) K dX3_copyFrom_32 (by decide) ?_
  refine gg_bipush (v := (36 : Int32)) (pc := 33) K dX3_copyFrom_33 (by decide) ?_
  refine gg_cpyi (pc := 35) (wf := fun zz => (W_X3_copyFrom (bu_E B) a_p1 a_p1_word a_p1_touched a_t a_t_word a_t_touched v_p1_count v_p1_touched v_p1_word y1 zz f2)) K 1 4 0 (fun h => h) rfl rfl rfl rfl (fun _ _ => rfl) q_3_38 q_2_205 q_2_204 q_1_12 (Nat.le_of_ble_eq_true rfl) (Nat.le_of_ble_eq_true rfl) dX3_copyFrom_35 hF (fun _ => rfl) (fun f3 ef3 hF => ?_)
  cases hF
  exact (hQ _ _ _ rfl).1 rfl rfl dX3_copyFrom_38
def F_X3_copyFrom  (v_p1_count : Int32) (v_p1_touched : (Nat → Int32)) (v_p1_word : (Nat → Int64)) (v_t_count : Int32) (v_t_touched : (Nat → Int32)) (v_t_word : (Nat → Int64)) : Option (Int32 × (Nat → Int32) × (Nat → Int64)) := F_X3_copyFrom_0 v_p1_count v_p1_touched v_p1_word v_t_count v_t_touched v_t_word
theorem n_X3_copyFrom : yX3_copyFrom.cls = "SoundDesk$Path" ∧ yX3_copyFrom.cls ≠ "java/lang/invoke/MethodHandle" ∧ yX3_copyFrom.cls ≠ "java/lang/invoke/VarHandle" ∧ (parseMethodDescriptor yX3_copyFrom.desc).map (fun d => d.parameters.length) = some 1 := by decide +kernel
theorem c_X3_copyFrom (l : Launch) (E : en_T) (a_p1 a_p1_word a_p1_touched a_t a_t_word a_t_touched : Nat)  (v_p1_count : Int32) (v_p1_touched : (Nat → Int32)) (v_p1_word : (Nat → Int64)) (v_t_count : Int32) (v_t_touched : (Nat → Int32)) (v_t_word : (Nat → Int64)) {o_t_count : Int32} {o_t_touched : (Nat → Int32)} {o_t_word : (Nat → Int64)} (hF : F_X3_copyFrom  v_p1_count v_p1_touched v_p1_word v_t_count v_t_touched v_t_word = some (o_t_count, o_t_touched, o_t_word)) : ct l yX3_copyFrom cX3_copyFrom 2 none rm_X3_copyFrom E [.ref a_t, .ref a_p1] (W_X3_copyFrom E a_p1 a_p1_word a_p1_touched a_t a_t_word a_t_touched v_p1_count v_p1_touched v_p1_word v_t_count v_t_touched v_t_word) none (fun x => x = (W_X3_copyFrom E a_p1 a_p1_word a_p1_touched a_t a_t_word a_t_touched v_p1_count v_p1_touched v_p1_word o_t_count o_t_touched o_t_word)) := by
  refine ct_of (by decide +kernel) (Nat.le_of_ble_eq_true rfl) (fun B hl hE _ K hQ => ?_)
  subst hl; subst hE
  refine gg_sub (lv' := [(0, .ref a_t), (1, .ref a_p1)]) [0, 1] rfl ?_
  exact w_X3_copyFrom_0 K hQ hF
theorem dX3_has_0 : decode cX3_has 0 = .ok (.iload_n 1, 1) := by decide +kernel
theorem dX3_has_1 : decode cX3_has 1 = .ok (.ifCond .lt 15, 3) := by decide +kernel
theorem dX3_has_4 : decode cX3_has 4 = .ok (.iload_n 1, 1) := by decide +kernel
theorem dX3_has_5 : decode cX3_has 5 = .ok (.aload_n 0, 1) := by decide +kernel
theorem dX3_has_6 : decode cX3_has 6 = .ok (.getfield 7, 3) := by decide +kernel
theorem dX3_has_9 : decode cX3_has 9 = .ok (.if_icmp .ge 7, 3) := by decide +kernel
theorem dX3_has_12 : decode cX3_has 12 = .ok (.iconst 1, 1) := by decide +kernel
theorem dX3_has_13 : decode cX3_has 13 = .ok (.goto 4, 3) := by decide +kernel
theorem dX3_has_16 : decode cX3_has 16 = .ok (.iconst 0, 1) := by decide +kernel
theorem dX3_has_17 : decode cX3_has 17 = .ok (.ireturn, 1) := by decide +kernel
def rm_X3_has : Room := { frames := 0, cells := 0, slots := 0, locals := 0 }
def W_X3_has (E : en_T) (a_t a_t_word a_t_touched : Nat) (v_t_count : Int32) : va_W := [(a_t, .inr (3, [.int v_t_count, .ref a_t_word, .ref a_t_touched]))]
def F_X3_has_0  (x1 : Int32) (v_t_count : Int32) : Option (Int32) := if x1 < (0 : Int32) then (some ((0 : Int32))) else (if v_t_count ≤ x1 then (some ((0 : Int32))) else (some ((1 : Int32))))
set_option maxHeartbeats 4000000 in
theorem w_X3_has_0 {B : bu_T} {a_t a_t_word a_t_touched : Nat} {v_t_count : Int32} {r : Int32}  (K : cx B cX3_has "SoundDesk$Path" rm_X3_has 2) (hQ : rt B cX3_has 2 (some .boolean) rm_X3_has (some (.int r)) (fun x => x = (W_X3_has (bu_E B) a_t a_t_word a_t_touched v_t_count))) {x1 : Int32} (hF : F_X3_has_0  x1 v_t_count = some (r)) : gg B 2 0 0 0 [(0, .ref a_t), (1, .int x1)] [] (W_X3_has (bu_E B) a_t a_t_word a_t_touched v_t_count) := by
  unfold F_X3_has_0 at hF
  refine gg_iload_n (pc := 0) K 1 dX3_has_0 rfl rfl ?_
  refine gg_if_lt (pc := 1) K 16 dX3_has_1 rfl hF (fun c1 hF => ?_) (fun c1 hF => ?_)
  · refine gg_iconst (v := (0 : Int32)) (pc := 16) K dX3_has_16 (by decide) ?_
    cases hF
    exact (hQ _ _ _ rfl).2.1 _ _ rfl rfl rfl dX3_has_17
  · refine gg_iload_n (pc := 4) K 1 dX3_has_4 rfl rfl ?_
    refine gg_aload_n (pc := 5) K 0 dX3_has_5 rfl rfl ?_
    refine gg_get (pc := 6) K 0 0 i_X3 rfl rfl (by decide) q_1_158 rfl dX3_has_6 ?_
    refine gg_icmp_ge (pc := 9) K 16 dX3_has_9 rfl hF (fun c2 hF => ?_) (fun c2 hF => ?_)
    · refine gg_iconst (v := (0 : Int32)) (pc := 16) K dX3_has_16 (by decide) ?_
      cases hF
      exact (hQ _ _ _ rfl).2.1 _ _ rfl rfl rfl dX3_has_17
    · refine gg_iconst (v := (1 : Int32)) (pc := 12) K dX3_has_12 (by decide) ?_
      refine gg_goto (pc := 13) K 17 dX3_has_13 rfl ?_
      cases hF
      exact (hQ _ _ _ rfl).2.1 _ _ rfl rfl rfl dX3_has_17
def F_X3_has (x1 : Int32) (v_t_count : Int32) : Option (Int32) := F_X3_has_0 x1 v_t_count
theorem n_X3_has : yX3_has.cls = "SoundDesk$Path" ∧ yX3_has.cls ≠ "java/lang/invoke/MethodHandle" ∧ yX3_has.cls ≠ "java/lang/invoke/VarHandle" ∧ (parseMethodDescriptor yX3_has.desc).map (fun d => d.parameters.length) = some 1 := by decide +kernel
theorem c_X3_has (l : Launch) (E : en_T) (a_t a_t_word a_t_touched : Nat) (x1 : Int32) (v_t_count : Int32) {r : Int32}  (hF : F_X3_has x1 v_t_count = some (r)) : ct l yX3_has cX3_has 2 (some .boolean) rm_X3_has E [.ref a_t, .int x1] (W_X3_has E a_t a_t_word a_t_touched v_t_count) (some (.int r)) (fun x => x = (W_X3_has E a_t a_t_word a_t_touched v_t_count)) := by
  refine ct_of (by decide +kernel) (Nat.le_of_ble_eq_true rfl) (fun B hl hE _ K hQ => ?_)
  subst hl; subst hE
  refine gg_sub (lv' := [(0, .ref a_t), (1, .int x1)]) [0, 1] rfl ?_
  exact w_X3_has_0 K hQ hF
theorem dX3_isTold_0 : decode cX3_isTold 0 = .ok (.lload_n 0, 1) := by decide +kernel
theorem dX3_isTold_1 : decode cX3_isTold 1 = .ok (.invokestatic 33, 3) := by decide +kernel
theorem dX3_isTold_4 : decode cX3_isTold 4 = .ok (.istore 5, 2) := by decide +kernel
theorem dX3_isTold_6 : decode cX3_isTold 6 = .ok (.iload_n 3, 1) := by decide +kernel
theorem dX3_isTold_7 : decode cX3_isTold 7 = .ok (.iload 5, 2) := by decide +kernel
theorem dX3_isTold_9 : decode cX3_isTold 9 = .ok (.iadd, 1) := by decide +kernel
theorem dX3_isTold_10 : decode cX3_isTold 10 = .ok (.iload 4, 2) := by decide +kernel
theorem dX3_isTold_12 : decode cX3_isTold 12 = .ok (.if_icmp .ge 11, 3) := by decide +kernel
theorem dX3_isTold_15 : decode cX3_isTold 15 = .ok (.aload_n 2, 1) := by decide +kernel
theorem dX3_isTold_16 : decode cX3_isTold 16 = .ok (.iload_n 3, 1) := by decide +kernel
theorem dX3_isTold_17 : decode cX3_isTold 17 = .ok (.iaload, 1) := by decide +kernel
theorem dX3_isTold_18 : decode cX3_isTold 18 = .ok (.iload 5, 2) := by decide +kernel
theorem dX3_isTold_20 : decode cX3_isTold 20 = .ok (.if_icmp .eq 5, 3) := by decide +kernel
theorem dX3_isTold_23 : decode cX3_isTold 23 = .ok (.iconst 0, 1) := by decide +kernel
theorem dX3_isTold_24 : decode cX3_isTold 24 = .ok (.ireturn, 1) := by decide +kernel
theorem dX3_isTold_25 : decode cX3_isTold 25 = .ok (.iconst 0, 1) := by decide +kernel
theorem dX3_isTold_26 : decode cX3_isTold 26 = .ok (.istore 6, 2) := by decide +kernel
theorem dX3_isTold_28 : decode cX3_isTold 28 = .ok (.iload 6, 2) := by decide +kernel
theorem dX3_isTold_30 : decode cX3_isTold 30 = .ok (.iload 5, 2) := by decide +kernel
theorem dX3_isTold_32 : decode cX3_isTold 32 = .ok (.if_icmp .ge 28, 3) := by decide +kernel
theorem dX3_isTold_35 : decode cX3_isTold 35 = .ok (.aload_n 2, 1) := by decide +kernel
theorem dX3_isTold_36 : decode cX3_isTold 36 = .ok (.iload_n 3, 1) := by decide +kernel
theorem dX3_isTold_37 : decode cX3_isTold 37 = .ok (.iconst 1, 1) := by decide +kernel
theorem dX3_isTold_38 : decode cX3_isTold 38 = .ok (.iadd, 1) := by decide +kernel
theorem dX3_isTold_39 : decode cX3_isTold 39 = .ok (.iload 6, 2) := by decide +kernel
theorem dX3_isTold_41 : decode cX3_isTold 41 = .ok (.iadd, 1) := by decide +kernel
theorem dX3_isTold_42 : decode cX3_isTold 42 = .ok (.iaload, 1) := by decide +kernel
theorem dX3_isTold_43 : decode cX3_isTold 43 = .ok (.lload_n 0, 1) := by decide +kernel
theorem dX3_isTold_44 : decode cX3_isTold 44 = .ok (.iload 6, 2) := by decide +kernel
theorem dX3_isTold_46 : decode cX3_isTold 46 = .ok (.invokestatic 39, 3) := by decide +kernel
theorem dX3_isTold_49 : decode cX3_isTold 49 = .ok (.if_icmp .eq 5, 3) := by decide +kernel
theorem dX3_isTold_52 : decode cX3_isTold 52 = .ok (.iconst 0, 1) := by decide +kernel
theorem dX3_isTold_53 : decode cX3_isTold 53 = .ok (.ireturn, 1) := by decide +kernel
theorem dX3_isTold_54 : decode cX3_isTold 54 = .ok (.iinc 6 1, 3) := by decide +kernel
theorem dX3_isTold_57 : decode cX3_isTold 57 = .ok (.goto (-29), 3) := by decide +kernel
theorem dX3_isTold_60 : decode cX3_isTold 60 = .ok (.iconst 1, 1) := by decide +kernel
theorem dX3_isTold_61 : decode cX3_isTold 61 = .ok (.ireturn, 1) := by decide +kernel
def rm_X3_isTold : Room := { frames := 3, cells := 0, slots := 0, locals := 69 }
def W_X3_isTold (E : en_T) (a_p1 : Nat) (v_p1 : (Nat → Int32)) : va_W := [(a_p1, .inl (en_I E, 300, .inl v_p1))]
def F_X3_isTold_28 (k28 : Int32 → Option (Int32)) (x0 : Int64) (x3 : Int32) (x5 : Int32) (x6 : Int32) (v_p1 : (Nat → Int32)) : Option (Int32) := if x5 ≤ x6 then (some ((1 : Int32))) else (ck_ ((x3 + (1 : Int32)) + x6) 300 (bn1_ (F_X9_soundAt x0 x6) (fun y2 => if (v_p1 (Int32.toNatClampNeg ((x3 + (1 : Int32)) + x6))) = y2 then (lt_ (x6 + (1 : Int32)) (fun y5 => k28 y5)) else (some ((0 : Int32))))))
set_option maxHeartbeats 4000000 in
theorem w_X3_isTold_28 {B : bu_T} {a_p1 : Nat} {v_p1 : (Nat → Int32)} {r : Int32}  (K : cx B cX3_isTold "SoundDesk$Path" rm_X3_isTold 7) (hQ : rt B cX3_isTold 7 (some .boolean) rm_X3_isTold (some (.int r)) (fun x => x = (W_X3_isTold (bu_E B) a_p1 v_p1))) {x0 : Int64} {x3 : Int32} {x5 : Int32} {x6 : Int32} {k28 : Int32 → Option (Int32)} (hk28 : ∀ (x6 : Int32), k28 x6 = some (r) → gg B 7 0 0 28 [(0, .long x0), (2, .ref a_p1), (3, .int x3), (5, .int x5), (6, .int x6)] [] (W_X3_isTold (bu_E B) a_p1 v_p1)) (hF : F_X3_isTold_28 k28 x0 x3 x5 x6 v_p1 = some (r)) : gg B 7 0 0 28 [(0, .long x0), (2, .ref a_p1), (3, .int x3), (5, .int x5), (6, .int x6)] [] (W_X3_isTold (bu_E B) a_p1 v_p1) := by
  unfold F_X3_isTold_28 at hF
  refine gg_iload (pc := 28) K 4 dX3_isTold_28 rfl ?_
  refine gg_iload (pc := 30) K 3 dX3_isTold_30 rfl ?_
  refine gg_icmp_ge (pc := 32) K 60 dX3_isTold_32 rfl hF (fun c1 hF => ?_) (fun c1 hF => ?_)
  · refine gg_iconst (v := (1 : Int32)) (pc := 60) K dX3_isTold_60 (by decide) ?_
    cases hF
    exact (hQ _ _ _ rfl).2.1 _ _ rfl rfl rfl dX3_isTold_61
  · refine gg_aload_n (pc := 35) K 1 dX3_isTold_35 rfl rfl ?_
    refine gg_iload_n (pc := 36) K 2 dX3_isTold_36 rfl rfl ?_
    refine gg_iconst (v := (1 : Int32)) (pc := 37) K dX3_isTold_37 (by decide) ?_
    refine gg_iadd (pc := 38) K dX3_isTold_38 ?_
    refine gg_iload (pc := 39) K 4 dX3_isTold_39 rfl ?_
    refine gg_iadd (pc := 41) K dX3_isTold_41 ?_
    refine gg_iald (pc := 42) K 0 rfl dX3_isTold_42 hF (fun hF => ?_)
    refine gg_lload_n (pc := 43) K 0 dX3_isTold_43 rfl rfl ?_
    refine gg_iload (pc := 44) K 4 dX3_isTold_44 rfl ?_
    obtain ⟨y2, hc3, hF⟩ := bn1_some hF
    refine gg_dS (pc := 46) (st' := [.int y2, .int (v_p1 (Int32.toNatClampNeg ((x3 + (1 : Int32)) + x6)))]) (rest := [.int (v_p1 (Int32.toNatClampNeg ((x3 + (1 : Int32)) + x6)))]) (w' := (W_X3_isTold (bu_E B) a_p1 v_p1)) K (c_X9_soundAt (bu_l B) (bu_E B) x0 x6 hc3) ⟨rfl, rfl⟩ q_4_24 q_2_232 q_1_13 q_2_233 n_X9_soundAt ⟨(Nat.le_of_ble_eq_true rfl), (Nat.le_of_ble_eq_true rfl)⟩ [] [false] rfl rfl rfl rfl rfl rfl (by decide) rfl rfl rfl ⟨Nat.zero_le _, Nat.zero_le _⟩ (Nat.le_of_ble_eq_true rfl) dX3_isTold_46 ?_
    refine gg_icmp_eq (pc := 49) K 54 dX3_isTold_49 rfl hF (fun c4 hF => ?_) (fun c4 hF => ?_)
    · refine gg_iinc (pc := 54) (v := (1 : Int32)) (lw := fun zz => [(0, .long x0), (2, .ref a_p1), (3, .int x3), (5, .int x5), (6, .int zz)]) K 4 [1, 2, 3, 4, 0] dX3_isTold_54 rfl rfl (by decide) hF (fun _ => rfl) (fun y5 ey5 hF => ?_)
      refine gg_goto (pc := 57) K 28 dX3_isTold_57 rfl ?_
      exact hk28 y5 hF
    · refine gg_iconst (v := (0 : Int32)) (pc := 52) K dX3_isTold_52 (by decide) ?_
      cases hF
      exact (hQ _ _ _ rfl).2.1 _ _ rfl rfl rfl dX3_isTold_53
def F_X3_isTold_28L  (x0 : Int64) (x3 : Int32) (x5 : Int32) (v_p1 : (Nat → Int32)) (fuel : Nat) (x6 : Int32) : Option (Int32) := lp1_ (fun k28 x6 => F_X3_isTold_28 k28 x0 x3 x5 x6 v_p1) fuel x6
theorem w_X3_isTold_28L {B : bu_T} {a_p1 : Nat} {v_p1 : (Nat → Int32)} {r : Int32}  (K : cx B cX3_isTold "SoundDesk$Path" rm_X3_isTold 7) (hQ : rt B cX3_isTold 7 (some .boolean) rm_X3_isTold (some (.int r)) (fun x => x = (W_X3_isTold (bu_E B) a_p1 v_p1))) {x0 : Int64} {x3 : Int32} {x5 : Int32} : ∀ (fuel : Nat) (x6 : Int32), F_X3_isTold_28L  x0 x3 x5 v_p1 fuel x6 = some (r) → gg B 7 0 0 28 [(0, .long x0), (2, .ref a_p1), (3, .int x3), (5, .int x5), (6, .int x6)] [] (W_X3_isTold (bu_E B) a_p1 v_p1) := by
  intro fuel
  induction fuel with
  | zero => intro x6 hF; exact absurd hF (by intro h; cases h)
  | succ fuel ih => intro x6 hF; exact w_X3_isTold_28 K hQ ih hF
def F_X3_isTold_0  (x0 : Int64) (x3 : Int32) (x4 : Int32) (v_p1 : (Nat → Int32)) : Option (Int32) := bn1_ (F_X9_size x0) (fun y6 => if x4 ≤ (x3 + y6) then (some ((0 : Int32))) else (ck_ x3 300 (if (v_p1 (Int32.toNatClampNeg x3)) = y6 then (F_X3_isTold_28L  x0 x3 y6 v_p1 fu_ (0 : Int32)) else (some ((0 : Int32))))))
set_option maxHeartbeats 4000000 in
theorem w_X3_isTold_0 {B : bu_T} {a_p1 : Nat} {v_p1 : (Nat → Int32)} {r : Int32}  (K : cx B cX3_isTold "SoundDesk$Path" rm_X3_isTold 7) (hQ : rt B cX3_isTold 7 (some .boolean) rm_X3_isTold (some (.int r)) (fun x => x = (W_X3_isTold (bu_E B) a_p1 v_p1))) {x0 : Int64} {x3 : Int32} {x4 : Int32} (hF : F_X3_isTold_0  x0 x3 x4 v_p1 = some (r)) : gg B 7 0 0 0 [(0, .long x0), (2, .ref a_p1), (3, .int x3), (4, .int x4)] [] (W_X3_isTold (bu_E B) a_p1 v_p1) := by
  unfold F_X3_isTold_0 at hF
  refine gg_lload_n (pc := 0) K 0 dX3_isTold_0 rfl rfl ?_
  obtain ⟨y6, hc7, hF⟩ := bn1_some hF
  refine gg_dS (pc := 1) (st' := [.int y6]) (rest := []) (w' := (W_X3_isTold (bu_E B) a_p1 v_p1)) K (c_X9_size (bu_l B) (bu_E B) x0 hc7) ⟨rfl, rfl⟩ q_4_23 q_2_215 q_1_13 q_2_216 n_X9_size ⟨(Nat.le_of_ble_eq_true rfl), (Nat.le_of_ble_eq_true rfl)⟩ [] [false] rfl rfl rfl rfl rfl rfl (by decide) rfl rfl rfl ⟨Nat.zero_le _, Nat.zero_le _⟩ (Nat.le_of_ble_eq_true rfl) dX3_isTold_1 ?_
  refine gg_istore (pc := 4) (lv' := [(0, .long x0), (2, .ref a_p1), (3, .int x3), (4, .int x4), (5, .int y6)]) K [1, 2, 3, 4, 0] dX3_isTold_4 (by decide) rfl ?_
  refine gg_iload_n (pc := 6) K 2 dX3_isTold_6 rfl rfl ?_
  refine gg_iload (pc := 7) K 4 dX3_isTold_7 rfl ?_
  refine gg_iadd (pc := 9) K dX3_isTold_9 ?_
  refine gg_iload (pc := 10) K 3 dX3_isTold_10 rfl ?_
  refine gg_icmp_ge (pc := 12) K 23 dX3_isTold_12 rfl hF (fun c8 hF => ?_) (fun c8 hF => ?_)
  · refine gg_iconst (v := (0 : Int32)) (pc := 23) K dX3_isTold_23 (by decide) ?_
    cases hF
    exact (hQ _ _ _ rfl).2.1 _ _ rfl rfl rfl dX3_isTold_24
  · refine gg_aload_n (pc := 15) K 1 dX3_isTold_15 rfl rfl ?_
    refine gg_iload_n (pc := 16) K 2 dX3_isTold_16 rfl rfl ?_
    refine gg_iald (pc := 17) K 0 rfl dX3_isTold_17 hF (fun hF => ?_)
    refine gg_iload (pc := 18) K 4 dX3_isTold_18 rfl ?_
    refine gg_icmp_eq (pc := 20) K 25 dX3_isTold_20 rfl hF (fun c9 hF => ?_) (fun c9 hF => ?_)
    · refine gg_iconst (v := (0 : Int32)) (pc := 25) K dX3_isTold_25 (by decide) ?_
      refine gg_istore (pc := 26) (lv' := [(0, .long x0), (2, .ref a_p1), (3, .int x3), (4, .int x4), (5, .int y6), (6, .int (0 : Int32))]) K [1, 2, 3, 4, 5, 0] dX3_isTold_26 (by decide) rfl ?_
      refine gg_sub [0, 1, 2, 4, 5] rfl ?_
      exact w_X3_isTold_28L K hQ  _ (0 : Int32) hF
    · refine gg_iconst (v := (0 : Int32)) (pc := 23) K dX3_isTold_23 (by decide) ?_
      cases hF
      exact (hQ _ _ _ rfl).2.1 _ _ rfl rfl rfl dX3_isTold_24
def F_X3_isTold (x0 : Int64) (x3 : Int32) (x4 : Int32) (v_p1 : (Nat → Int32)) : Option (Int32) := F_X3_isTold_0 x0 x3 x4 v_p1
theorem n_X3_isTold : yX3_isTold.cls ≠ "java/lang/invoke/MethodHandle" ∧ yX3_isTold.cls ≠ "java/lang/invoke/VarHandle" ∧ (parseMethodDescriptor yX3_isTold.desc).map (fun d => d.parameters.length) = some 4 := by decide +kernel
theorem c_X3_isTold (l : Launch) (E : en_T) (a_p1 : Nat) (x0 : Int64) (x3 : Int32) (x4 : Int32) (v_p1 : (Nat → Int32)) {r : Int32}  (hF : F_X3_isTold x0 x3 x4 v_p1 = some (r)) : ct l yX3_isTold cX3_isTold 7 (some .boolean) rm_X3_isTold E [.long x0, .ref a_p1, .int x3, .int x4] (W_X3_isTold E a_p1 v_p1) (some (.int r)) (fun x => x = (W_X3_isTold E a_p1 v_p1)) := by
  refine ct_of (by decide +kernel) (Nat.le_of_ble_eq_true rfl) (fun B hl hE _ K hQ => ?_)
  subst hl; subst hE
  refine gg_sub (lv' := [(0, .long x0), (2, .ref a_p1), (3, .int x3), (4, .int x4)]) [0, 1, 2, 3] rfl ?_
  exact w_X3_isTold_0 K hQ hF
theorem dX3_firstWrong_0 : decode cX3_firstWrong 0 = .ok (.iconst 0, 1) := by decide +kernel
theorem dX3_firstWrong_1 : decode cX3_firstWrong 1 = .ok (.istore_n 3, 1) := by decide +kernel
theorem dX3_firstWrong_2 : decode cX3_firstWrong 2 = .ok (.iconst 0, 1) := by decide +kernel
theorem dX3_firstWrong_3 : decode cX3_firstWrong 3 = .ok (.istore 4, 2) := by decide +kernel
theorem dX3_firstWrong_5 : decode cX3_firstWrong 5 = .ok (.iload 4, 2) := by decide +kernel
theorem dX3_firstWrong_7 : decode cX3_firstWrong 7 = .ok (.aload_n 0, 1) := by decide +kernel
theorem dX3_firstWrong_8 : decode cX3_firstWrong 8 = .ok (.getfield 7, 3) := by decide +kernel
theorem dX3_firstWrong_11 : decode cX3_firstWrong 11 = .ok (.if_icmp .ge 45, 3) := by decide +kernel
theorem dX3_firstWrong_14 : decode cX3_firstWrong 14 = .ok (.aload_n 0, 1) := by decide +kernel
theorem dX3_firstWrong_15 : decode cX3_firstWrong 15 = .ok (.getfield 15, 3) := by decide +kernel
theorem dX3_firstWrong_18 : decode cX3_firstWrong 18 = .ok (.iload 4, 2) := by decide +kernel
theorem dX3_firstWrong_20 : decode cX3_firstWrong 20 = .ok (.laload, 1) := by decide +kernel
theorem dX3_firstWrong_21 : decode cX3_firstWrong 21 = .ok (.aload_n 1, 1) := by decide +kernel
theorem dX3_firstWrong_22 : decode cX3_firstWrong 22 = .ok (.iload_n 3, 1) := by decide +kernel
theorem dX3_firstWrong_23 : decode cX3_firstWrong 23 = .ok (.iload_n 2, 1) := by decide +kernel
theorem dX3_firstWrong_24 : decode cX3_firstWrong 24 = .ok (.invokestatic 29, 3) := by decide +kernel
theorem dX3_firstWrong_27 : decode cX3_firstWrong 27 = .ok (.ifCond .ne 8, 3) := by decide +kernel
theorem dX3_firstWrong_30 : decode cX3_firstWrong 30 = .ok (.iload 4, 2) := by decide +kernel
theorem dX3_firstWrong_32 : decode cX3_firstWrong 32 = .ok (.iconst 1, 1) := by decide +kernel
theorem dX3_firstWrong_33 : decode cX3_firstWrong 33 = .ok (.iadd, 1) := by decide +kernel
theorem dX3_firstWrong_34 : decode cX3_firstWrong 34 = .ok (.ireturn, 1) := by decide +kernel
theorem dX3_firstWrong_35 : decode cX3_firstWrong 35 = .ok (.iload_n 3, 1) := by decide +kernel
theorem dX3_firstWrong_36 : decode cX3_firstWrong 36 = .ok (.iconst 1, 1) := by decide +kernel
theorem dX3_firstWrong_37 : decode cX3_firstWrong 37 = .ok (.aload_n 0, 1) := by decide +kernel
theorem dX3_firstWrong_38 : decode cX3_firstWrong 38 = .ok (.getfield 15, 3) := by decide +kernel
theorem dX3_firstWrong_41 : decode cX3_firstWrong 41 = .ok (.iload 4, 2) := by decide +kernel
theorem dX3_firstWrong_43 : decode cX3_firstWrong 43 = .ok (.laload, 1) := by decide +kernel
theorem dX3_firstWrong_44 : decode cX3_firstWrong 44 = .ok (.invokestatic 33, 3) := by decide +kernel
theorem dX3_firstWrong_47 : decode cX3_firstWrong 47 = .ok (.iadd, 1) := by decide +kernel
theorem dX3_firstWrong_48 : decode cX3_firstWrong 48 = .ok (.iadd, 1) := by decide +kernel
theorem dX3_firstWrong_49 : decode cX3_firstWrong 49 = .ok (.istore_n 3, 1) := by decide +kernel
theorem dX3_firstWrong_50 : decode cX3_firstWrong 50 = .ok (.iinc 4 1, 3) := by decide +kernel
theorem dX3_firstWrong_53 : decode cX3_firstWrong 53 = .ok (.goto (-48), 3) := by decide +kernel
theorem dX3_firstWrong_56 : decode cX3_firstWrong 56 = .ok (.iload_n 3, 1) := by decide +kernel
theorem dX3_firstWrong_57 : decode cX3_firstWrong 57 = .ok (.iload_n 2, 1) := by decide +kernel
theorem dX3_firstWrong_58 : decode cX3_firstWrong 58 = .ok (.if_icmp .ge 12, 3) := by decide +kernel
theorem dX3_firstWrong_61 : decode cX3_firstWrong 61 = .ok (.aload_n 0, 1) := by decide +kernel
theorem dX3_firstWrong_62 : decode cX3_firstWrong 62 = .ok (.getfield 7, 3) := by decide +kernel
theorem dX3_firstWrong_65 : decode cX3_firstWrong 65 = .ok (.iconst 1, 1) := by decide +kernel
theorem dX3_firstWrong_66 : decode cX3_firstWrong 66 = .ok (.iadd, 1) := by decide +kernel
theorem dX3_firstWrong_67 : decode cX3_firstWrong 67 = .ok (.goto 4, 3) := by decide +kernel
theorem dX3_firstWrong_70 : decode cX3_firstWrong 70 = .ok (.iconst 0, 1) := by decide +kernel
theorem dX3_firstWrong_71 : decode cX3_firstWrong 71 = .ok (.ireturn, 1) := by decide +kernel
def rm_X3_firstWrong : Room := { frames := 4, cells := 0, slots := 0, locals := 95 }
def W_X3_firstWrong (E : en_T) (a_p1 a_t a_t_word a_t_touched : Nat) (v_p1 : (Nat → Int32)) (v_t_count : Int32) (v_t_word : (Nat → Int64)) : va_W := [(a_p1, .inl (en_I E, 300, .inl v_p1)), (a_t, .inr (3, [.int v_t_count, .ref a_t_word, .ref a_t_touched])), (a_t_word, .inl (en_J E, 36, .inr (.inl v_t_word)))]
def F_X3_firstWrong_5 (k5 : Int32 → Int32 → Option (Int32)) (x2 : Int32) (x3 : Int32) (x4 : Int32) (v_p1 : (Nat → Int32)) (v_t_count : Int32) (v_t_word : (Nat → Int64)) : Option (Int32) := if v_t_count ≤ x4 then (if x2 ≤ x3 then (some ((0 : Int32))) else (some ((v_t_count + (1 : Int32))))) else (ck_ x4 36 (bn1_ (F_X3_isTold (v_t_word (Int32.toNatClampNeg x4)) x3 x2 v_p1) (fun y3 => if y3 = (0 : Int32) then (some ((x4 + (1 : Int32)))) else (ck_ x4 36 (bn1_ (F_X9_size (v_t_word (Int32.toNatClampNeg x4))) (fun y6 => lt_ (x3 + ((1 : Int32) + y6)) (fun y8 => lt_ (x4 + (1 : Int32)) (fun y9 => k5 y8 y9))))))))
set_option maxHeartbeats 4000000 in
theorem w_X3_firstWrong_5 {B : bu_T} {a_p1 a_t a_t_word a_t_touched : Nat} {v_p1 : (Nat → Int32)} {v_t_count : Int32} {v_t_word : (Nat → Int64)} {r : Int32}  (K : cx B cX3_firstWrong "SoundDesk$Path" rm_X3_firstWrong 5) (hQ : rt B cX3_firstWrong 5 (some .int) rm_X3_firstWrong (some (.int r)) (fun x => x = (W_X3_firstWrong (bu_E B) a_p1 a_t a_t_word a_t_touched v_p1 v_t_count v_t_word))) {x2 : Int32} {x3 : Int32} {x4 : Int32} {k5 : Int32 → Int32 → Option (Int32)} (hk5 : ∀ (x3 : Int32) (x4 : Int32), k5 x3 x4 = some (r) → gg B 5 0 0 5 [(0, .ref a_t), (1, .ref a_p1), (2, .int x2), (3, .int x3), (4, .int x4)] [] (W_X3_firstWrong (bu_E B) a_p1 a_t a_t_word a_t_touched v_p1 v_t_count v_t_word)) (hF : F_X3_firstWrong_5 k5 x2 x3 x4 v_p1 v_t_count v_t_word = some (r)) : gg B 5 0 0 5 [(0, .ref a_t), (1, .ref a_p1), (2, .int x2), (3, .int x3), (4, .int x4)] [] (W_X3_firstWrong (bu_E B) a_p1 a_t a_t_word a_t_touched v_p1 v_t_count v_t_word) := by
  unfold F_X3_firstWrong_5 at hF
  refine gg_iload (pc := 5) K 4 dX3_firstWrong_5 rfl ?_
  refine gg_aload_n (pc := 7) K 0 dX3_firstWrong_7 rfl rfl ?_
  refine gg_get (pc := 8) K 1 0 i_X3 rfl rfl (by decide) q_1_158 rfl dX3_firstWrong_8 ?_
  refine gg_icmp_ge (pc := 11) K 56 dX3_firstWrong_11 rfl hF (fun c1 hF => ?_) (fun c1 hF => ?_)
  · refine gg_iload_n (pc := 56) K 3 dX3_firstWrong_56 rfl rfl ?_
    refine gg_iload_n (pc := 57) K 2 dX3_firstWrong_57 rfl rfl ?_
    refine gg_icmp_ge (pc := 58) K 70 dX3_firstWrong_58 rfl hF (fun c2 hF => ?_) (fun c2 hF => ?_)
    · refine gg_iconst (v := (0 : Int32)) (pc := 70) K dX3_firstWrong_70 (by decide) ?_
      cases hF
      exact (hQ _ _ _ rfl).2.1 _ _ rfl rfl rfl dX3_firstWrong_71
    · refine gg_aload_n (pc := 61) K 0 dX3_firstWrong_61 rfl rfl ?_
      refine gg_get (pc := 62) K 1 0 i_X3 rfl rfl (by decide) q_1_158 rfl dX3_firstWrong_62 ?_
      refine gg_iconst (v := (1 : Int32)) (pc := 65) K dX3_firstWrong_65 (by decide) ?_
      refine gg_iadd (pc := 66) K dX3_firstWrong_66 ?_
      refine gg_goto (pc := 67) K 71 dX3_firstWrong_67 rfl ?_
      cases hF
      exact (hQ _ _ _ rfl).2.1 _ _ rfl rfl rfl dX3_firstWrong_71
  · refine gg_aload_n (pc := 14) K 0 dX3_firstWrong_14 rfl rfl ?_
    refine gg_get (pc := 15) K 1 1 i_X3 rfl rfl (by decide) q_1_161 rfl dX3_firstWrong_15 ?_
    refine gg_iload (pc := 18) K 4 dX3_firstWrong_18 rfl ?_
    refine gg_lald (pc := 20) K 2 rfl dX3_firstWrong_20 hF (fun hF => ?_)
    refine gg_aload_n (pc := 21) K 1 dX3_firstWrong_21 rfl rfl ?_
    refine gg_iload_n (pc := 22) K 3 dX3_firstWrong_22 rfl rfl ?_
    refine gg_iload_n (pc := 23) K 2 dX3_firstWrong_23 rfl rfl ?_
    obtain ⟨y3, hc4, hF⟩ := bn1_some hF
    refine gg_dS (pc := 24) (st' := [.int y3]) (rest := []) (w' := (W_X3_firstWrong (bu_E B) a_p1 a_t a_t_word a_t_touched v_p1 v_t_count v_t_word)) K (c_X3_isTold (bu_l B) (bu_E B) a_p1 (v_t_word (Int32.toNatClampNeg x4)) x3 x2 v_p1 hc4) ⟨rfl, rfl⟩ q_4_20 q_4_21 q_1_8 q_4_22 n_X3_isTold ⟨(Nat.le_of_ble_eq_true rfl), (Nat.le_of_ble_eq_true rfl)⟩ [0] [true, false, false] rfl rfl rfl rfl rfl rfl (by decide) rfl rfl rfl ⟨Nat.zero_le _, Nat.zero_le _⟩ (Nat.le_of_ble_eq_true rfl) dX3_firstWrong_24 ?_
    refine gg_if_ne (pc := 27) K 35 dX3_firstWrong_27 rfl hF (fun c5 hF => ?_) (fun c5 hF => ?_)
    · refine gg_iload_n (pc := 35) K 3 dX3_firstWrong_35 rfl rfl ?_
      refine gg_iconst (v := (1 : Int32)) (pc := 36) K dX3_firstWrong_36 (by decide) ?_
      refine gg_aload_n (pc := 37) K 0 dX3_firstWrong_37 rfl rfl ?_
      refine gg_get (pc := 38) K 1 1 i_X3 rfl rfl (by decide) q_1_161 rfl dX3_firstWrong_38 ?_
      refine gg_iload (pc := 41) K 4 dX3_firstWrong_41 rfl ?_
      refine gg_lald (pc := 43) K 2 rfl dX3_firstWrong_43 hF (fun hF => ?_)
      obtain ⟨y6, hc7, hF⟩ := bn1_some hF
      refine gg_dS (pc := 44) (st' := [.int y6, .int (1 : Int32), .int x3]) (rest := [.int (1 : Int32), .int x3]) (w' := (W_X3_firstWrong (bu_E B) a_p1 a_t a_t_word a_t_touched v_p1 v_t_count v_t_word)) K (c_X9_size (bu_l B) (bu_E B) (v_t_word (Int32.toNatClampNeg x4)) hc7) ⟨rfl, rfl⟩ q_4_23 q_2_215 q_1_13 q_2_216 n_X9_size ⟨(Nat.le_of_ble_eq_true rfl), (Nat.le_of_ble_eq_true rfl)⟩ [] [false, false, false] rfl rfl rfl rfl rfl rfl (by decide) rfl rfl rfl ⟨Nat.zero_le _, Nat.zero_le _⟩ (Nat.le_of_ble_eq_true rfl) dX3_firstWrong_44 ?_
      refine gg_iadd (pc := 47) K dX3_firstWrong_47 ?_
      refine gg_iadd (pc := 48) K dX3_firstWrong_48 ?_
      refine gg_topi hF (fun y8 ey8 hF => ?_)
      refine gg_istore_n (pc := 49) (lv' := [(0, .ref a_t), (1, .ref a_p1), (2, .int x2), (3, .int y8), (4, .int x4)]) K [1, 2, 3, 0, 4] dX3_firstWrong_49 rfl (by decide) rfl ?_
      refine gg_iinc (pc := 50) (v := (1 : Int32)) (lw := fun zz => [(0, .ref a_t), (1, .ref a_p1), (2, .int x2), (3, .int y8), (4, .int zz)]) K 4 [1, 2, 3, 4, 0] dX3_firstWrong_50 rfl rfl (by decide) hF (fun _ => rfl) (fun y9 ey9 hF => ?_)
      refine gg_goto (pc := 53) K 5 dX3_firstWrong_53 rfl ?_
      exact hk5 y8 y9 hF
    · refine gg_iload (pc := 30) K 4 dX3_firstWrong_30 rfl ?_
      refine gg_iconst (v := (1 : Int32)) (pc := 32) K dX3_firstWrong_32 (by decide) ?_
      refine gg_iadd (pc := 33) K dX3_firstWrong_33 ?_
      cases hF
      exact (hQ _ _ _ rfl).2.1 _ _ rfl rfl rfl dX3_firstWrong_34
def F_X3_firstWrong_5L  (x2 : Int32) (v_p1 : (Nat → Int32)) (v_t_count : Int32) (v_t_word : (Nat → Int64)) (fuel : Nat) (x3 : Int32) (x4 : Int32) : Option (Int32) := lp2_ (fun k5 x3 x4 => F_X3_firstWrong_5 k5 x2 x3 x4 v_p1 v_t_count v_t_word) fuel x3 x4
theorem w_X3_firstWrong_5L {B : bu_T} {a_p1 a_t a_t_word a_t_touched : Nat} {v_p1 : (Nat → Int32)} {v_t_count : Int32} {v_t_word : (Nat → Int64)} {r : Int32}  (K : cx B cX3_firstWrong "SoundDesk$Path" rm_X3_firstWrong 5) (hQ : rt B cX3_firstWrong 5 (some .int) rm_X3_firstWrong (some (.int r)) (fun x => x = (W_X3_firstWrong (bu_E B) a_p1 a_t a_t_word a_t_touched v_p1 v_t_count v_t_word))) {x2 : Int32} : ∀ (fuel : Nat) (x3 : Int32) (x4 : Int32), F_X3_firstWrong_5L  x2 v_p1 v_t_count v_t_word fuel x3 x4 = some (r) → gg B 5 0 0 5 [(0, .ref a_t), (1, .ref a_p1), (2, .int x2), (3, .int x3), (4, .int x4)] [] (W_X3_firstWrong (bu_E B) a_p1 a_t a_t_word a_t_touched v_p1 v_t_count v_t_word) := by
  intro fuel
  induction fuel with
  | zero => intro x3 x4 hF; exact absurd hF (by intro h; cases h)
  | succ fuel ih => intro x3 x4 hF; exact w_X3_firstWrong_5 K hQ ih hF
def F_X3_firstWrong_0  (x2 : Int32) (v_p1 : (Nat → Int32)) (v_t_count : Int32) (v_t_word : (Nat → Int64)) : Option (Int32) := F_X3_firstWrong_5L  x2 v_p1 v_t_count v_t_word fu_ (0 : Int32) (0 : Int32)
set_option maxHeartbeats 4000000 in
theorem w_X3_firstWrong_0 {B : bu_T} {a_p1 a_t a_t_word a_t_touched : Nat} {v_p1 : (Nat → Int32)} {v_t_count : Int32} {v_t_word : (Nat → Int64)} {r : Int32}  (K : cx B cX3_firstWrong "SoundDesk$Path" rm_X3_firstWrong 5) (hQ : rt B cX3_firstWrong 5 (some .int) rm_X3_firstWrong (some (.int r)) (fun x => x = (W_X3_firstWrong (bu_E B) a_p1 a_t a_t_word a_t_touched v_p1 v_t_count v_t_word))) {x2 : Int32} (hF : F_X3_firstWrong_0  x2 v_p1 v_t_count v_t_word = some (r)) : gg B 5 0 0 0 [(0, .ref a_t), (1, .ref a_p1), (2, .int x2)] [] (W_X3_firstWrong (bu_E B) a_p1 a_t a_t_word a_t_touched v_p1 v_t_count v_t_word) := by
  unfold F_X3_firstWrong_0 at hF
  refine gg_iconst (v := (0 : Int32)) (pc := 0) K dX3_firstWrong_0 (by decide) ?_
  refine gg_istore_n (pc := 1) (lv' := [(0, .ref a_t), (1, .ref a_p1), (2, .int x2), (3, .int (0 : Int32))]) K [1, 2, 3, 0] dX3_firstWrong_1 rfl (by decide) rfl ?_
  refine gg_iconst (v := (0 : Int32)) (pc := 2) K dX3_firstWrong_2 (by decide) ?_
  refine gg_istore (pc := 3) (lv' := [(0, .ref a_t), (1, .ref a_p1), (2, .int x2), (3, .int (0 : Int32)), (4, .int (0 : Int32))]) K [1, 2, 3, 4, 0] dX3_firstWrong_3 (by decide) rfl ?_
  exact w_X3_firstWrong_5L K hQ  _ (0 : Int32) (0 : Int32) hF
def F_X3_firstWrong (x2 : Int32) (v_p1 : (Nat → Int32)) (v_t_count : Int32) (v_t_word : (Nat → Int64)) : Option (Int32) := F_X3_firstWrong_0 x2 v_p1 v_t_count v_t_word
theorem n_X3_firstWrong : yX3_firstWrong.cls = "SoundDesk$Path" ∧ yX3_firstWrong.cls ≠ "java/lang/invoke/MethodHandle" ∧ yX3_firstWrong.cls ≠ "java/lang/invoke/VarHandle" ∧ (parseMethodDescriptor yX3_firstWrong.desc).map (fun d => d.parameters.length) = some 2 := by decide +kernel
theorem c_X3_firstWrong (l : Launch) (E : en_T) (a_p1 a_t a_t_word a_t_touched : Nat) (x2 : Int32) (v_p1 : (Nat → Int32)) (v_t_count : Int32) (v_t_word : (Nat → Int64)) {r : Int32}  (hF : F_X3_firstWrong x2 v_p1 v_t_count v_t_word = some (r)) : ct l yX3_firstWrong cX3_firstWrong 5 (some .int) rm_X3_firstWrong E [.ref a_t, .ref a_p1, .int x2] (W_X3_firstWrong E a_p1 a_t a_t_word a_t_touched v_p1 v_t_count v_t_word) (some (.int r)) (fun x => x = (W_X3_firstWrong E a_p1 a_t a_t_word a_t_touched v_p1 v_t_count v_t_word)) := by
  refine ct_of (by decide +kernel) (Nat.le_of_ble_eq_true rfl) (fun B hl hE _ K hQ => ?_)
  subst hl; subst hE
  refine gg_sub (lv' := [(0, .ref a_t), (1, .ref a_p1), (2, .int x2)]) [0, 1, 2] rfl ?_
  exact w_X3_firstWrong_0 K hQ hF
theorem dX7_copyFrom_0 : decode cX7_copyFrom 0 = .ok (.aload_n 0, 1) := by decide +kernel
theorem dX7_copyFrom_1 : decode cX7_copyFrom 1 = .ok (.aload_n 1, 1) := by decide +kernel
theorem dX7_copyFrom_2 : decode cX7_copyFrom 2 = .ok (.getfield 7, 3) := by decide +kernel
theorem dX7_copyFrom_5 : decode cX7_copyFrom 5 = .ok (.putfield 7, 3) := by decide +kernel
theorem dX7_copyFrom_8 : decode cX7_copyFrom 8 = .ok (.aload_n 1, 1) := by decide +kernel
theorem dX7_copyFrom_9 : decode cX7_copyFrom 9 = .ok (.getfield 13, 3) := by decide +kernel
theorem dX7_copyFrom_12 : decode cX7_copyFrom 12 = .ok (.iconst 0, 1) := by decide +kernel
theorem dX7_copyFrom_13 : decode cX7_copyFrom 13 = .ok (.aload_n 0, 1) := by decide +kernel
theorem dX7_copyFrom_14 : decode cX7_copyFrom 14 = .ok (.getfield 13, 3) := by decide +kernel
theorem dX7_copyFrom_17 : decode cX7_copyFrom 17 = .ok (.iconst 0, 1) := by decide +kernel
theorem dX7_copyFrom_18 : decode cX7_copyFrom 18 = .ok (.bipush 6, 2) := by decide +kernel
theorem dX7_copyFrom_20 : decode cX7_copyFrom 20 = .ok (.invokestatic 25, 3) := by decide +kernel
theorem dX7_copyFrom_23 : decode cX7_copyFrom 23 = .ok (.aload_n 1, 1) := by decide +kernel
theorem dX7_copyFrom_24 : decode cX7_copyFrom 24 = .ok (.getfield 17, 3) := by decide +kernel
theorem dX7_copyFrom_27 : decode cX7_copyFrom 27 = .ok (.iconst 0, 1) := by decide +kernel
theorem dX7_copyFrom_28 : decode cX7_copyFrom 28 = .ok (.aload_n 0, 1) := by decide +kernel
theorem dX7_copyFrom_29 : decode cX7_copyFrom 29 = .ok (.getfield 17, 3) := by decide +kernel
theorem dX7_copyFrom_32 : decode cX7_copyFrom 32 = .ok (.iconst 0, 1) := by decide +kernel
theorem dX7_copyFrom_33 : decode cX7_copyFrom 33 = .ok (.bipush 6, 2) := by decide +kernel
theorem dX7_copyFrom_35 : decode cX7_copyFrom 35 = .ok (.invokestatic 25, 3) := by decide +kernel
theorem dX7_copyFrom_38 : decode cX7_copyFrom 38 = .ok (.iconst 0, 1) := by decide +kernel
theorem dX7_copyFrom_39 : decode cX7_copyFrom 39 = .ok (.istore_n 2, 1) := by decide +kernel
theorem dX7_copyFrom_40 : decode cX7_copyFrom 40 = .ok (.iload_n 2, 1) := by decide +kernel
theorem dX7_copyFrom_41 : decode cX7_copyFrom 41 = .ok (.bipush 6, 2) := by decide +kernel
theorem dX7_copyFrom_43 : decode cX7_copyFrom 43 = .ok (.if_icmp .ge 28, 3) := by decide +kernel
theorem dX7_copyFrom_46 : decode cX7_copyFrom 46 = .ok (.aload_n 1, 1) := by decide +kernel
theorem dX7_copyFrom_47 : decode cX7_copyFrom 47 = .ok (.getfield 22, 3) := by decide +kernel
theorem dX7_copyFrom_50 : decode cX7_copyFrom 50 = .ok (.iload_n 2, 1) := by decide +kernel
theorem dX7_copyFrom_51 : decode cX7_copyFrom 51 = .ok (.aaload, 1) := by decide +kernel
theorem dX7_copyFrom_52 : decode cX7_copyFrom 52 = .ok (.iconst 0, 1) := by decide +kernel
theorem dX7_copyFrom_53 : decode cX7_copyFrom 53 = .ok (.aload_n 0, 1) := by decide +kernel
theorem dX7_copyFrom_54 : decode cX7_copyFrom 54 = .ok (.getfield 22, 3) := by decide +kernel
theorem dX7_copyFrom_57 : decode cX7_copyFrom 57 = .ok (.iload_n 2, 1) := by decide +kernel
theorem dX7_copyFrom_58 : decode cX7_copyFrom 58 = .ok (.aaload, 1) := by decide +kernel
theorem dX7_copyFrom_59 : decode cX7_copyFrom 59 = .ok (.iconst 0, 1) := by decide +kernel
theorem dX7_copyFrom_60 : decode cX7_copyFrom 60 = .ok (.bipush 6, 2) := by decide +kernel
theorem dX7_copyFrom_62 : decode cX7_copyFrom 62 = .ok (.invokestatic 25, 3) := by decide +kernel
theorem dX7_copyFrom_65 : decode cX7_copyFrom 65 = .ok (.iinc 2 1, 3) := by decide +kernel
theorem dX7_copyFrom_68 : decode cX7_copyFrom 68 = .ok (.goto (-28), 3) := by decide +kernel
theorem dX7_copyFrom_71 : decode cX7_copyFrom 71 = .ok (.return_, 1) := by decide +kernel
def rm_X7_copyFrom : Room := { frames := 1, cells := 0, slots := 0, locals := 60 }
def W_X7_copyFrom (E : en_T) (a_p1 a_p1_parent a_p1_ownCount a_p1_own a_t a_t_parent a_t_ownCount a_t_own : Nat) (r_p1_own r_t_own : Nat → Nat) (v_p1_count : Int32) (v_p1_own : (Nat → Nat → Int32)) (v_p1_ownCount : (Nat → Int32)) (v_p1_parent : (Nat → Int32)) (v_t_count : Int32) (v_t_own : (Nat → Nat → Int32)) (v_t_ownCount : (Nat → Int32)) (v_t_parent : (Nat → Int32)) : va_W := [(a_p1, .inr (7, [.int v_p1_count, .ref a_p1_parent, .ref a_p1_ownCount, .ref a_p1_own])), (a_p1_own, .inl (en_II E, 6, .inr (.inr (.inr (.inr (go_ 6 r_p1_own)))))), (r_p1_own 0, .inl (en_I E, 6, .inl (v_p1_own 0))), (r_p1_own 1, .inl (en_I E, 6, .inl (v_p1_own 1))), (r_p1_own 2, .inl (en_I E, 6, .inl (v_p1_own 2))), (r_p1_own 3, .inl (en_I E, 6, .inl (v_p1_own 3))), (r_p1_own 4, .inl (en_I E, 6, .inl (v_p1_own 4))), (r_p1_own 5, .inl (en_I E, 6, .inl (v_p1_own 5))), (a_p1_ownCount, .inl (en_I E, 6, .inl v_p1_ownCount)), (a_p1_parent, .inl (en_I E, 6, .inl v_p1_parent)), (a_t, .inr (7, [.int v_t_count, .ref a_t_parent, .ref a_t_ownCount, .ref a_t_own])), (a_t_own, .inl (en_II E, 6, .inr (.inr (.inr (.inr (go_ 6 r_t_own)))))), (r_t_own 0, .inl (en_I E, 6, .inl (v_t_own 0))), (r_t_own 1, .inl (en_I E, 6, .inl (v_t_own 1))), (r_t_own 2, .inl (en_I E, 6, .inl (v_t_own 2))), (r_t_own 3, .inl (en_I E, 6, .inl (v_t_own 3))), (r_t_own 4, .inl (en_I E, 6, .inl (v_t_own 4))), (r_t_own 5, .inl (en_I E, 6, .inl (v_t_own 5))), (a_t_ownCount, .inl (en_I E, 6, .inl v_t_ownCount)), (a_t_parent, .inl (en_I E, 6, .inl v_t_parent))]
def F_X7_copyFrom_40 (k40 : Int32 → (Nat → Nat → Int32) → Option (Int32 × (Nat → Nat → Int32) × (Nat → Int32) × (Nat → Int32))) (x2 : Int32) (v_p1_own : (Nat → Nat → Int32)) (v_t_count : Int32) (v_t_own : (Nat → Nat → Int32)) (v_t_ownCount : (Nat → Int32)) (v_t_parent : (Nat → Int32)) : Option (Int32 × (Nat → Nat → Int32) × (Nat → Int32) × (Nat → Int32)) := if (6 : Int32) ≤ x2 then (some (v_t_count, v_t_own, v_t_ownCount, v_t_parent)) else (ck_ x2 6 (ck_ x2 6 (cp_ (0 : Int32) (0 : Int32) (6 : Int32) 6 6 (lt_ (ur_ v_t_own (Int32.toNatClampNeg x2) (va_cpy (v_p1_own (Int32.toNatClampNeg x2)) (v_t_own (Int32.toNatClampNeg x2)) (Int32.toNatClampNeg (0 : Int32)) (Int32.toNatClampNeg (0 : Int32)) (Int32.toNatClampNeg (6 : Int32)))) (fun f4 => lt_ (x2 + (1 : Int32)) (fun y5 => k40 y5 f4))))))
set_option maxHeartbeats 4000000 in
theorem w_X7_copyFrom_40 {B : bu_T} {a_p1 a_p1_parent a_p1_ownCount a_p1_own a_t a_t_parent a_t_ownCount a_t_own : Nat} {r_p1_own r_t_own : Nat → Nat} {v_p1_count : Int32} {v_p1_own : (Nat → Nat → Int32)} {v_p1_ownCount : (Nat → Int32)} {v_p1_parent : (Nat → Int32)} {v_t_count : Int32} {v_t_own : (Nat → Nat → Int32)} {v_t_ownCount : (Nat → Int32)} {v_t_parent : (Nat → Int32)} {o_t_count : Int32} {o_t_own : (Nat → Nat → Int32)} {o_t_ownCount : (Nat → Int32)} {o_t_parent : (Nat → Int32)} (K : cx B cX7_copyFrom "SoundDesk$Tongues" rm_X7_copyFrom 3) (hQ : rt B cX7_copyFrom 3 none rm_X7_copyFrom none (fun x => x = (W_X7_copyFrom (bu_E B) a_p1 a_p1_parent a_p1_ownCount a_p1_own a_t a_t_parent a_t_ownCount a_t_own r_p1_own r_t_own v_p1_count v_p1_own v_p1_ownCount v_p1_parent o_t_count o_t_own o_t_ownCount o_t_parent))) {x2 : Int32} {k40 : Int32 → (Nat → Nat → Int32) → Option (Int32 × (Nat → Nat → Int32) × (Nat → Int32) × (Nat → Int32))} (hk40 : ∀ (x2 : Int32) (v_t_own : (Nat → Nat → Int32)), k40 x2 v_t_own = some (o_t_count, o_t_own, o_t_ownCount, o_t_parent) → gg B 3 0 0 40 [(0, .ref a_t), (1, .ref a_p1), (2, .int x2)] [] (W_X7_copyFrom (bu_E B) a_p1 a_p1_parent a_p1_ownCount a_p1_own a_t a_t_parent a_t_ownCount a_t_own r_p1_own r_t_own v_p1_count v_p1_own v_p1_ownCount v_p1_parent v_t_count v_t_own v_t_ownCount v_t_parent)) (hF : F_X7_copyFrom_40 k40 x2 v_p1_own v_t_count v_t_own v_t_ownCount v_t_parent = some (o_t_count, o_t_own, o_t_ownCount, o_t_parent)) : gg B 3 0 0 40 [(0, .ref a_t), (1, .ref a_p1), (2, .int x2)] [] (W_X7_copyFrom (bu_E B) a_p1 a_p1_parent a_p1_ownCount a_p1_own a_t a_t_parent a_t_ownCount a_t_own r_p1_own r_t_own v_p1_count v_p1_own v_p1_ownCount v_p1_parent v_t_count v_t_own v_t_ownCount v_t_parent) := by
  unfold F_X7_copyFrom_40 at hF
  refine gg_iload_n (pc := 40) K 2 dX7_copyFrom_40 rfl rfl ?_
  refine gg_bipush (v := (6 : Int32)) (pc := 41) K dX7_copyFrom_41 (by decide) ?_
  refine gg_icmp_ge (pc := 43) K 71 dX7_copyFrom_43 rfl hF (fun c1 hF => ?_) (fun c1 hF => ?_)
  · cases hF
    exact (hQ _ _ _ rfl).1 rfl rfl dX7_copyFrom_71
  · refine gg_aload_n (pc := 46) K 1 dX7_copyFrom_46 rfl rfl ?_
    refine gg_get (pc := 47) K 0 3 i_X7 rfl rfl (by decide) q_1_120 rfl dX7_copyFrom_47 ?_
    refine gg_iload_n (pc := 50) K 2 dX7_copyFrom_50 rfl rfl ?_
    refine gg_aaldI (pc := 51) K 1 rfl dX7_copyFrom_51 hF (fun h2 hF => ?_)
    refine gg_iconst (v := (0 : Int32)) (pc := 52) K dX7_copyFrom_52 (by decide) ?_
    refine gg_aload_n (pc := 53) K 0 dX7_copyFrom_53 rfl rfl ?_
    refine gg_get (pc := 54) K 10 3 i_X7 rfl rfl (by decide) q_1_120 rfl dX7_copyFrom_54 ?_
    refine gg_iload_n (pc := 57) K 2 dX7_copyFrom_57 rfl rfl ?_
    refine gg_aaldI (pc := 58) K 11 rfl dX7_copyFrom_58 hF (fun h3 hF => ?_)
    refine gg_iconst (v := (0 : Int32)) (pc := 59) K dX7_copyFrom_59 (by decide) ?_
    refine gg_bipush (v := (6 : Int32)) (pc := 60) K dX7_copyFrom_60 (by decide) ?_
    refine gg_cpyi (pc := 62) (wf := fun zz => (W_X7_copyFrom (bu_E B) a_p1 a_p1_parent a_p1_ownCount a_p1_own a_t a_t_parent a_t_ownCount a_t_own r_p1_own r_t_own v_p1_count v_p1_own v_p1_ownCount v_p1_parent v_t_count zz v_t_ownCount v_t_parent)) K (2 + (Int32.toNatClampNeg x2)) (12 + (Int32.toNatClampNeg x2)) 0 (fun h => ur_ v_t_own (Int32.toNatClampNeg x2) h) (lt6_ (P := fun i => (W_X7_copyFrom (bu_E B) a_p1 a_p1_parent a_p1_ownCount a_p1_own a_t a_t_parent a_t_ownCount a_t_own r_p1_own r_t_own v_p1_count v_p1_own v_p1_ownCount v_p1_parent v_t_count v_t_own v_t_ownCount v_t_parent)[2 + i]? = some (r_p1_own i, .inl (en_I (bu_E B), 6, .inl (v_p1_own i)))) rfl rfl rfl rfl rfl rfl _ h2) (lt6_ (P := fun i => (W_X7_copyFrom (bu_E B) a_p1 a_p1_parent a_p1_ownCount a_p1_own a_t a_t_parent a_t_ownCount a_t_own r_p1_own r_t_own v_p1_count v_p1_own v_p1_ownCount v_p1_parent v_t_count v_t_own v_t_ownCount v_t_parent)[12 + i]? = some (r_t_own i, .inl (en_I (bu_E B), 6, .inl (v_t_own i)))) rfl rfl rfl rfl rfl rfl _ h3) rfl rfl (fun _ _ => rfl) q_4_47 q_2_205 q_2_204 q_1_12 (Nat.le_of_ble_eq_true rfl) (Nat.le_of_ble_eq_true rfl) dX7_copyFrom_62 hF (lt6_ (P := fun i => ∀ h, (W_X7_copyFrom (bu_E B) a_p1 a_p1_parent a_p1_ownCount a_p1_own a_t a_t_parent a_t_ownCount a_t_own r_p1_own r_t_own v_p1_count v_p1_own v_p1_ownCount v_p1_parent v_t_count v_t_own v_t_ownCount v_t_parent).set (12 + i) (r_t_own i, .inl (en_I (bu_E B), 6, .inl (h))) = (fun zz => (W_X7_copyFrom (bu_E B) a_p1 a_p1_parent a_p1_ownCount a_p1_own a_t a_t_parent a_t_ownCount a_t_own r_p1_own r_t_own v_p1_count v_p1_own v_p1_ownCount v_p1_parent v_t_count zz v_t_ownCount v_t_parent)) (ur_ v_t_own i h)) (fun _ => rfl) (fun _ => rfl) (fun _ => rfl) (fun _ => rfl) (fun _ => rfl) (fun _ => rfl) _ h3) (fun f4 ef4 hF => ?_)
    refine gg_iinc (pc := 65) (v := (1 : Int32)) (lw := fun zz => [(0, .ref a_t), (1, .ref a_p1), (2, .int zz)]) K 2 [1, 2, 0] dX7_copyFrom_65 rfl rfl (by decide) hF (fun _ => rfl) (fun y5 ey5 hF => ?_)
    refine gg_goto (pc := 68) K 40 dX7_copyFrom_68 rfl ?_
    exact hk40 y5 f4 hF
def F_X7_copyFrom_40L  (v_p1_own : (Nat → Nat → Int32)) (v_t_count : Int32) (v_t_ownCount : (Nat → Int32)) (v_t_parent : (Nat → Int32)) (fuel : Nat) (x2 : Int32) (v_t_own : (Nat → Nat → Int32)) : Option (Int32 × (Nat → Nat → Int32) × (Nat → Int32) × (Nat → Int32)) := lp2_ (fun k40 x2 v_t_own => F_X7_copyFrom_40 k40 x2 v_p1_own v_t_count v_t_own v_t_ownCount v_t_parent) fuel x2 v_t_own
theorem w_X7_copyFrom_40L {B : bu_T} {a_p1 a_p1_parent a_p1_ownCount a_p1_own a_t a_t_parent a_t_ownCount a_t_own : Nat} {r_p1_own r_t_own : Nat → Nat} {v_p1_count : Int32} {v_p1_own : (Nat → Nat → Int32)} {v_p1_ownCount : (Nat → Int32)} {v_p1_parent : (Nat → Int32)} {v_t_count : Int32} {v_t_ownCount : (Nat → Int32)} {v_t_parent : (Nat → Int32)} {o_t_count : Int32} {o_t_own : (Nat → Nat → Int32)} {o_t_ownCount : (Nat → Int32)} {o_t_parent : (Nat → Int32)} (K : cx B cX7_copyFrom "SoundDesk$Tongues" rm_X7_copyFrom 3) (hQ : rt B cX7_copyFrom 3 none rm_X7_copyFrom none (fun x => x = (W_X7_copyFrom (bu_E B) a_p1 a_p1_parent a_p1_ownCount a_p1_own a_t a_t_parent a_t_ownCount a_t_own r_p1_own r_t_own v_p1_count v_p1_own v_p1_ownCount v_p1_parent o_t_count o_t_own o_t_ownCount o_t_parent)))  : ∀ (fuel : Nat) (x2 : Int32) (v_t_own : (Nat → Nat → Int32)), F_X7_copyFrom_40L  v_p1_own v_t_count v_t_ownCount v_t_parent fuel x2 v_t_own = some (o_t_count, o_t_own, o_t_ownCount, o_t_parent) → gg B 3 0 0 40 [(0, .ref a_t), (1, .ref a_p1), (2, .int x2)] [] (W_X7_copyFrom (bu_E B) a_p1 a_p1_parent a_p1_ownCount a_p1_own a_t a_t_parent a_t_ownCount a_t_own r_p1_own r_t_own v_p1_count v_p1_own v_p1_ownCount v_p1_parent v_t_count v_t_own v_t_ownCount v_t_parent) := by
  intro fuel
  induction fuel with
  | zero => intro x2 v_t_own hF; exact absurd hF (by intro h; cases h)
  | succ fuel ih => intro x2 v_t_own hF; exact w_X7_copyFrom_40 K hQ ih hF
def F_X7_copyFrom_0  (v_p1_count : Int32) (v_p1_own : (Nat → Nat → Int32)) (v_p1_ownCount : (Nat → Int32)) (v_p1_parent : (Nat → Int32)) (v_t_count : Int32) (v_t_own : (Nat → Nat → Int32)) (v_t_ownCount : (Nat → Int32)) (v_t_parent : (Nat → Int32)) : Option (Int32 × (Nat → Nat → Int32) × (Nat → Int32) × (Nat → Int32)) := lt_ v_p1_count (fun y6 => cp_ (0 : Int32) (0 : Int32) (6 : Int32) 6 6 (lt_ (va_cpy v_p1_parent v_t_parent (Int32.toNatClampNeg (0 : Int32)) (Int32.toNatClampNeg (0 : Int32)) (Int32.toNatClampNeg (6 : Int32))) (fun f7 => cp_ (0 : Int32) (0 : Int32) (6 : Int32) 6 6 (lt_ (va_cpy v_p1_ownCount v_t_ownCount (Int32.toNatClampNeg (0 : Int32)) (Int32.toNatClampNeg (0 : Int32)) (Int32.toNatClampNeg (6 : Int32))) (fun f8 => F_X7_copyFrom_40L  v_p1_own y6 f8 f7 fu_ (0 : Int32) v_t_own)))))
set_option maxHeartbeats 4000000 in
theorem w_X7_copyFrom_0 {B : bu_T} {a_p1 a_p1_parent a_p1_ownCount a_p1_own a_t a_t_parent a_t_ownCount a_t_own : Nat} {r_p1_own r_t_own : Nat → Nat} {v_p1_count : Int32} {v_p1_own : (Nat → Nat → Int32)} {v_p1_ownCount : (Nat → Int32)} {v_p1_parent : (Nat → Int32)} {v_t_count : Int32} {v_t_own : (Nat → Nat → Int32)} {v_t_ownCount : (Nat → Int32)} {v_t_parent : (Nat → Int32)} {o_t_count : Int32} {o_t_own : (Nat → Nat → Int32)} {o_t_ownCount : (Nat → Int32)} {o_t_parent : (Nat → Int32)} (K : cx B cX7_copyFrom "SoundDesk$Tongues" rm_X7_copyFrom 3) (hQ : rt B cX7_copyFrom 3 none rm_X7_copyFrom none (fun x => x = (W_X7_copyFrom (bu_E B) a_p1 a_p1_parent a_p1_ownCount a_p1_own a_t a_t_parent a_t_ownCount a_t_own r_p1_own r_t_own v_p1_count v_p1_own v_p1_ownCount v_p1_parent o_t_count o_t_own o_t_ownCount o_t_parent)))  (hF : F_X7_copyFrom_0  v_p1_count v_p1_own v_p1_ownCount v_p1_parent v_t_count v_t_own v_t_ownCount v_t_parent = some (o_t_count, o_t_own, o_t_ownCount, o_t_parent)) : gg B 3 0 0 0 [(0, .ref a_t), (1, .ref a_p1)] [] (W_X7_copyFrom (bu_E B) a_p1 a_p1_parent a_p1_ownCount a_p1_own a_t a_t_parent a_t_ownCount a_t_own r_p1_own r_t_own v_p1_count v_p1_own v_p1_ownCount v_p1_parent v_t_count v_t_own v_t_ownCount v_t_parent) := by
  unfold F_X7_copyFrom_0 at hF
  refine gg_aload_n (pc := 0) K 0 dX7_copyFrom_0 rfl rfl ?_
  refine gg_aload_n (pc := 1) K 1 dX7_copyFrom_1 rfl rfl ?_
  refine gg_get (pc := 2) K 0 0 i_X7 rfl rfl (by decide) q_1_109 rfl dX7_copyFrom_2 ?_
  refine gg_puti (pc := 5) (wf := fun zz => (W_X7_copyFrom (bu_E B) a_p1 a_p1_parent a_p1_ownCount a_p1_own a_t a_t_parent a_t_ownCount a_t_own r_p1_own r_t_own v_p1_count v_p1_own v_p1_ownCount v_p1_parent zz v_t_own v_t_ownCount v_t_parent)) K 10 0 i_X7 tyX7_ok nmX7 rfl rfl (by decide) q_1_109 rfl (by decide +kernel) (Nat.le_of_ble_eq_true rfl) dX7_copyFrom_5 hF (fun _ => rfl) (fun y6 ey6 hF => ?_)
  refine gg_aload_n (pc := 8) K 1 dX7_copyFrom_8 rfl rfl ?_
  refine gg_get (pc := 9) K 0 1 i_X7 rfl rfl (by decide) q_1_113 rfl dX7_copyFrom_9 ?_
  refine gg_iconst (v := (0 : Int32)) (pc := 12) K dX7_copyFrom_12 (by decide) ?_
  refine gg_aload_n (pc := 13) K 0 dX7_copyFrom_13 rfl rfl ?_
  refine gg_get (pc := 14) K 10 1 i_X7 rfl rfl (by decide) q_1_113 rfl dX7_copyFrom_14 ?_
  refine gg_iconst (v := (0 : Int32)) (pc := 17) K dX7_copyFrom_17 (by decide) ?_
  refine gg_bipush (v := (6 : Int32)) (pc := 18) K dX7_copyFrom_18 (by decide) ?_
  refine gg_cpyi (pc := 20) (wf := fun zz => (W_X7_copyFrom (bu_E B) a_p1 a_p1_parent a_p1_ownCount a_p1_own a_t a_t_parent a_t_ownCount a_t_own r_p1_own r_t_own v_p1_count v_p1_own v_p1_ownCount v_p1_parent y6 v_t_own v_t_ownCount zz)) K 9 19 0 (fun h => h) rfl rfl rfl rfl (fun _ _ => rfl) q_4_47 q_2_205 q_2_204 q_1_12 (Nat.le_of_ble_eq_true rfl) (Nat.le_of_ble_eq_true rfl) dX7_copyFrom_20 hF (fun _ => rfl) (fun f7 ef7 hF => ?_)
  refine gg_aload_n (pc := 23) K 1 dX7_copyFrom_23 rfl rfl ?_
  refine gg_get (pc := 24) K 0 2 i_X7 rfl rfl (by decide) q_1_116 rfl dX7_copyFrom_24 ?_
  refine gg_iconst (v := (0 : Int32)) (pc := 27) K dX7_copyFrom_27 (by decide) ?_
  refine gg_aload_n (pc := 28) K 0 dX7_copyFrom_28 rfl rfl ?_
  refine gg_get (pc := 29) K 10 2 i_X7 rfl rfl (by decide) q_1_116 rfl dX7_copyFrom_29 ?_
  refine gg_iconst (v := (0 : Int32)) (pc := 32) K dX7_copyFrom_32 (by decide) ?_
  refine gg_bipush (v := (6 : Int32)) (pc := 33) K dX7_copyFrom_33 (by decide) ?_
  refine gg_cpyi (pc := 35) (wf := fun zz => (W_X7_copyFrom (bu_E B) a_p1 a_p1_parent a_p1_ownCount a_p1_own a_t a_t_parent a_t_ownCount a_t_own r_p1_own r_t_own v_p1_count v_p1_own v_p1_ownCount v_p1_parent y6 v_t_own zz f7)) K 8 18 0 (fun h => h) rfl rfl rfl rfl (fun _ _ => rfl) q_4_47 q_2_205 q_2_204 q_1_12 (Nat.le_of_ble_eq_true rfl) (Nat.le_of_ble_eq_true rfl) dX7_copyFrom_35 hF (fun _ => rfl) (fun f8 ef8 hF => ?_)
  refine gg_iconst (v := (0 : Int32)) (pc := 38) K dX7_copyFrom_38 (by decide) ?_
  refine gg_istore_n (pc := 39) (lv' := [(0, .ref a_t), (1, .ref a_p1), (2, .int (0 : Int32))]) K [1, 2, 0] dX7_copyFrom_39 rfl (by decide) rfl ?_
  exact w_X7_copyFrom_40L K hQ  _ (0 : Int32) v_t_own hF
def F_X7_copyFrom  (v_p1_count : Int32) (v_p1_own : (Nat → Nat → Int32)) (v_p1_ownCount : (Nat → Int32)) (v_p1_parent : (Nat → Int32)) (v_t_count : Int32) (v_t_own : (Nat → Nat → Int32)) (v_t_ownCount : (Nat → Int32)) (v_t_parent : (Nat → Int32)) : Option (Int32 × (Nat → Nat → Int32) × (Nat → Int32) × (Nat → Int32)) := F_X7_copyFrom_0 v_p1_count v_p1_own v_p1_ownCount v_p1_parent v_t_count v_t_own v_t_ownCount v_t_parent
theorem n_X7_copyFrom : yX7_copyFrom.cls = "SoundDesk$Tongues" ∧ yX7_copyFrom.cls ≠ "java/lang/invoke/MethodHandle" ∧ yX7_copyFrom.cls ≠ "java/lang/invoke/VarHandle" ∧ (parseMethodDescriptor yX7_copyFrom.desc).map (fun d => d.parameters.length) = some 1 := by decide +kernel
theorem c_X7_copyFrom (l : Launch) (E : en_T) (a_p1 a_p1_parent a_p1_ownCount a_p1_own a_t a_t_parent a_t_ownCount a_t_own : Nat) (r_p1_own r_t_own : Nat → Nat)  (v_p1_count : Int32) (v_p1_own : (Nat → Nat → Int32)) (v_p1_ownCount : (Nat → Int32)) (v_p1_parent : (Nat → Int32)) (v_t_count : Int32) (v_t_own : (Nat → Nat → Int32)) (v_t_ownCount : (Nat → Int32)) (v_t_parent : (Nat → Int32)) {o_t_count : Int32} {o_t_own : (Nat → Nat → Int32)} {o_t_ownCount : (Nat → Int32)} {o_t_parent : (Nat → Int32)} (hF : F_X7_copyFrom  v_p1_count v_p1_own v_p1_ownCount v_p1_parent v_t_count v_t_own v_t_ownCount v_t_parent = some (o_t_count, o_t_own, o_t_ownCount, o_t_parent)) : ct l yX7_copyFrom cX7_copyFrom 3 none rm_X7_copyFrom E [.ref a_t, .ref a_p1] (W_X7_copyFrom E a_p1 a_p1_parent a_p1_ownCount a_p1_own a_t a_t_parent a_t_ownCount a_t_own r_p1_own r_t_own v_p1_count v_p1_own v_p1_ownCount v_p1_parent v_t_count v_t_own v_t_ownCount v_t_parent) none (fun x => x = (W_X7_copyFrom E a_p1 a_p1_parent a_p1_ownCount a_p1_own a_t a_t_parent a_t_ownCount a_t_own r_p1_own r_t_own v_p1_count v_p1_own v_p1_ownCount v_p1_parent o_t_count o_t_own o_t_ownCount o_t_parent)) := by
  refine ct_of (by decide +kernel) (Nat.le_of_ble_eq_true rfl) (fun B hl hE _ K hQ => ?_)
  subst hl; subst hE
  refine gg_sub (lv' := [(0, .ref a_t), (1, .ref a_p1)]) [0, 1] rfl ?_
  exact w_X7_copyFrom_0 K hQ hF
theorem dX6_takeOver_0 : decode cX6_takeOver 0 = .ok (.aload_n 0, 1) := by decide +kernel
theorem dX6_takeOver_1 : decode cX6_takeOver 1 = .ok (.getfield 10, 3) := by decide +kernel
theorem dX6_takeOver_4 : decode cX6_takeOver 4 = .ok (.aload_n 1, 1) := by decide +kernel
theorem dX6_takeOver_5 : decode cX6_takeOver 5 = .ok (.getfield 10, 3) := by decide +kernel
theorem dX6_takeOver_8 : decode cX6_takeOver 8 = .ok (.invokevirtual 57, 3) := by decide +kernel
theorem dX6_takeOver_11 : decode cX6_takeOver 11 = .ok (.aload_n 0, 1) := by decide +kernel
theorem dX6_takeOver_12 : decode cX6_takeOver 12 = .ok (.getfield 19, 3) := by decide +kernel
theorem dX6_takeOver_15 : decode cX6_takeOver 15 = .ok (.aload_n 1, 1) := by decide +kernel
theorem dX6_takeOver_16 : decode cX6_takeOver 16 = .ok (.getfield 19, 3) := by decide +kernel
theorem dX6_takeOver_19 : decode cX6_takeOver 19 = .ok (.invokevirtual 61, 3) := by decide +kernel
theorem dX6_takeOver_22 : decode cX6_takeOver 22 = .ok (.aload_n 0, 1) := by decide +kernel
theorem dX6_takeOver_23 : decode cX6_takeOver 23 = .ok (.getfield 26, 3) := by decide +kernel
theorem dX6_takeOver_26 : decode cX6_takeOver 26 = .ok (.aload_n 1, 1) := by decide +kernel
theorem dX6_takeOver_27 : decode cX6_takeOver 27 = .ok (.getfield 26, 3) := by decide +kernel
theorem dX6_takeOver_30 : decode cX6_takeOver 30 = .ok (.invokevirtual 64, 3) := by decide +kernel
theorem dX6_takeOver_33 : decode cX6_takeOver 33 = .ok (.aload_n 0, 1) := by decide +kernel
theorem dX6_takeOver_34 : decode cX6_takeOver 34 = .ok (.getfield 33, 3) := by decide +kernel
theorem dX6_takeOver_37 : decode cX6_takeOver 37 = .ok (.aload_n 1, 1) := by decide +kernel
theorem dX6_takeOver_38 : decode cX6_takeOver 38 = .ok (.getfield 33, 3) := by decide +kernel
theorem dX6_takeOver_41 : decode cX6_takeOver 41 = .ok (.invokevirtual 67, 3) := by decide +kernel
theorem dX6_takeOver_44 : decode cX6_takeOver 44 = .ok (.aload_n 0, 1) := by decide +kernel
theorem dX6_takeOver_45 : decode cX6_takeOver 45 = .ok (.getfield 40, 3) := by decide +kernel
theorem dX6_takeOver_48 : decode cX6_takeOver 48 = .ok (.aload_n 1, 1) := by decide +kernel
theorem dX6_takeOver_49 : decode cX6_takeOver 49 = .ok (.getfield 40, 3) := by decide +kernel
theorem dX6_takeOver_52 : decode cX6_takeOver 52 = .ok (.invokevirtual 70, 3) := by decide +kernel
theorem dX6_takeOver_55 : decode cX6_takeOver 55 = .ok (.aload_n 0, 1) := by decide +kernel
theorem dX6_takeOver_56 : decode cX6_takeOver 56 = .ok (.aload_n 1, 1) := by decide +kernel
theorem dX6_takeOver_57 : decode cX6_takeOver 57 = .ok (.getfield 46, 3) := by decide +kernel
theorem dX6_takeOver_60 : decode cX6_takeOver 60 = .ok (.putfield 46, 3) := by decide +kernel
theorem dX6_takeOver_63 : decode cX6_takeOver 63 = .ok (.aload_n 0, 1) := by decide +kernel
theorem dX6_takeOver_64 : decode cX6_takeOver 64 = .ok (.aload_n 1, 1) := by decide +kernel
theorem dX6_takeOver_65 : decode cX6_takeOver 65 = .ok (.getfield 50, 3) := by decide +kernel
theorem dX6_takeOver_68 : decode cX6_takeOver 68 = .ok (.putfield 50, 3) := by decide +kernel
theorem dX6_takeOver_71 : decode cX6_takeOver 71 = .ok (.aload_n 0, 1) := by decide +kernel
theorem dX6_takeOver_72 : decode cX6_takeOver 72 = .ok (.aload_n 1, 1) := by decide +kernel
theorem dX6_takeOver_73 : decode cX6_takeOver 73 = .ok (.getfield 53, 3) := by decide +kernel
theorem dX6_takeOver_76 : decode cX6_takeOver 76 = .ok (.putfield 53, 3) := by decide +kernel
theorem dX6_takeOver_79 : decode cX6_takeOver 79 = .ok (.return_, 1) := by decide +kernel
def rm_X6_takeOver : Room := { frames := 2, cells := 0, slots := 0, locals := 82 }
def W_X6_takeOver (E : en_T) (a_p1 a_p1_sounds a_p1_laws a_p1_tongues a_p1_meanings a_p1_latest a_p1_latest_word a_p1_latest_touched a_p1_laws_how a_p1_laws_into a_p1_laws_kind a_p1_laws_setKind a_p1_laws_setYes a_p1_laws_setNo a_p1_laws_fitting a_p1_meanings_form a_p1_sounds_kind a_p1_sounds_yes a_p1_sounds_no a_p1_tongues_parent a_p1_tongues_ownCount a_p1_tongues_own a_t a_t_sounds a_t_laws a_t_tongues a_t_meanings a_t_latest a_t_latest_word a_t_latest_touched a_t_laws_how a_t_laws_into a_t_laws_kind a_t_laws_setKind a_t_laws_setYes a_t_laws_setNo a_t_laws_fitting a_t_meanings_form a_t_sounds_kind a_t_sounds_yes a_t_sounds_no a_t_tongues_parent a_t_tongues_ownCount a_t_tongues_own : Nat) (r_p1_meanings_form r_p1_tongues_own r_t_meanings_form r_t_tongues_own : Nat → Nat) (v_p1_word : Int64) (v_p1_outcome : Int64) (v_p1_gap : Int32) (v_p1_latest_count : Int32) (v_p1_latest_touched : (Nat → Int32)) (v_p1_latest_word : (Nat → Int64)) (v_p1_laws_count : Int32) (v_p1_laws_touched : Int32) (v_p1_laws_fitting : (Nat → Int32)) (v_p1_laws_how : (Nat → Int32)) (v_p1_laws_into : (Nat → Int32)) (v_p1_laws_kind : (Nat → Int32)) (v_p1_laws_setKind : (Nat → Int32)) (v_p1_laws_setNo : (Nat → Int32)) (v_p1_laws_setYes : (Nat → Int32)) (v_p1_meanings_count : Int32) (v_p1_meanings_form : (Nat → Nat → Int64)) (v_p1_sounds_count : Int32) (v_p1_sounds_missingRows : Int32) (v_p1_sounds_kind : (Nat → Int32)) (v_p1_sounds_no : (Nat → Int32)) (v_p1_sounds_yes : (Nat → Int32)) (v_p1_tongues_count : Int32) (v_p1_tongues_own : (Nat → Nat → Int32)) (v_p1_tongues_ownCount : (Nat → Int32)) (v_p1_tongues_parent : (Nat → Int32)) (v_t_word : Int64) (v_t_outcome : Int64) (v_t_gap : Int32) (v_t_latest_count : Int32) (v_t_latest_touched : (Nat → Int32)) (v_t_latest_word : (Nat → Int64)) (v_t_laws_count : Int32) (v_t_laws_touched : Int32) (v_t_laws_fitting : (Nat → Int32)) (v_t_laws_how : (Nat → Int32)) (v_t_laws_into : (Nat → Int32)) (v_t_laws_kind : (Nat → Int32)) (v_t_laws_setKind : (Nat → Int32)) (v_t_laws_setNo : (Nat → Int32)) (v_t_laws_setYes : (Nat → Int32)) (v_t_meanings_count : Int32) (v_t_meanings_form : (Nat → Nat → Int64)) (v_t_sounds_count : Int32) (v_t_sounds_missingRows : Int32) (v_t_sounds_kind : (Nat → Int32)) (v_t_sounds_no : (Nat → Int32)) (v_t_sounds_yes : (Nat → Int32)) (v_t_tongues_count : Int32) (v_t_tongues_own : (Nat → Nat → Int32)) (v_t_tongues_ownCount : (Nat → Int32)) (v_t_tongues_parent : (Nat → Int32)) : va_W := [(a_p1, .inr (6, [.ref a_p1_sounds, .ref a_p1_laws, .ref a_p1_tongues, .ref a_p1_meanings, .ref a_p1_latest, .long v_p1_word, .long v_p1_outcome, .int v_p1_gap])), (a_p1_latest, .inr (3, [.int v_p1_latest_count, .ref a_p1_latest_word, .ref a_p1_latest_touched])), (a_p1_latest_touched, .inl (en_I E, 36, .inl v_p1_latest_touched)), (a_p1_latest_word, .inl (en_J E, 36, .inr (.inl v_p1_latest_word))), (a_p1_laws, .inr (1, [.int v_p1_laws_count, .int v_p1_laws_touched, .ref a_p1_laws_how, .ref a_p1_laws_into, .ref a_p1_laws_kind, .ref a_p1_laws_setKind, .ref a_p1_laws_setYes, .ref a_p1_laws_setNo, .ref a_p1_laws_fitting])), (a_p1_laws_fitting, .inl (en_I E, 48, .inl v_p1_laws_fitting)), (a_p1_laws_how, .inl (en_I E, 16, .inl v_p1_laws_how)), (a_p1_laws_into, .inl (en_I E, 16, .inl v_p1_laws_into)), (a_p1_laws_kind, .inl (en_I E, 16, .inl v_p1_laws_kind)), (a_p1_laws_setKind, .inl (en_I E, 48, .inl v_p1_laws_setKind)), (a_p1_laws_setNo, .inl (en_I E, 48, .inl v_p1_laws_setNo)), (a_p1_laws_setYes, .inl (en_I E, 48, .inl v_p1_laws_setYes)), (a_p1_meanings, .inr (2, [.int v_p1_meanings_count, .ref a_p1_meanings_form])), (a_p1_meanings_form, .inl (en_JJ E, 8, .inr (.inr (.inr (.inr (go_ 8 r_p1_meanings_form)))))), (r_p1_meanings_form 0, .inl (en_J E, 6, .inr (.inl (v_p1_meanings_form 0)))), (r_p1_meanings_form 1, .inl (en_J E, 6, .inr (.inl (v_p1_meanings_form 1)))), (r_p1_meanings_form 2, .inl (en_J E, 6, .inr (.inl (v_p1_meanings_form 2)))), (r_p1_meanings_form 3, .inl (en_J E, 6, .inr (.inl (v_p1_meanings_form 3)))), (r_p1_meanings_form 4, .inl (en_J E, 6, .inr (.inl (v_p1_meanings_form 4)))), (r_p1_meanings_form 5, .inl (en_J E, 6, .inr (.inl (v_p1_meanings_form 5)))), (r_p1_meanings_form 6, .inl (en_J E, 6, .inr (.inl (v_p1_meanings_form 6)))), (r_p1_meanings_form 7, .inl (en_J E, 6, .inr (.inl (v_p1_meanings_form 7)))), (a_p1_sounds, .inr (5, [.int v_p1_sounds_count, .int v_p1_sounds_missingRows, .ref a_p1_sounds_kind, .ref a_p1_sounds_yes, .ref a_p1_sounds_no])), (a_p1_sounds_kind, .inl (en_I E, 8, .inl v_p1_sounds_kind)), (a_p1_sounds_no, .inl (en_I E, 8, .inl v_p1_sounds_no)), (a_p1_sounds_yes, .inl (en_I E, 8, .inl v_p1_sounds_yes)), (a_p1_tongues, .inr (7, [.int v_p1_tongues_count, .ref a_p1_tongues_parent, .ref a_p1_tongues_ownCount, .ref a_p1_tongues_own])), (a_p1_tongues_own, .inl (en_II E, 6, .inr (.inr (.inr (.inr (go_ 6 r_p1_tongues_own)))))), (r_p1_tongues_own 0, .inl (en_I E, 6, .inl (v_p1_tongues_own 0))), (r_p1_tongues_own 1, .inl (en_I E, 6, .inl (v_p1_tongues_own 1))), (r_p1_tongues_own 2, .inl (en_I E, 6, .inl (v_p1_tongues_own 2))), (r_p1_tongues_own 3, .inl (en_I E, 6, .inl (v_p1_tongues_own 3))), (r_p1_tongues_own 4, .inl (en_I E, 6, .inl (v_p1_tongues_own 4))), (r_p1_tongues_own 5, .inl (en_I E, 6, .inl (v_p1_tongues_own 5))), (a_p1_tongues_ownCount, .inl (en_I E, 6, .inl v_p1_tongues_ownCount)), (a_p1_tongues_parent, .inl (en_I E, 6, .inl v_p1_tongues_parent)), (a_t, .inr (6, [.ref a_t_sounds, .ref a_t_laws, .ref a_t_tongues, .ref a_t_meanings, .ref a_t_latest, .long v_t_word, .long v_t_outcome, .int v_t_gap])), (a_t_latest, .inr (3, [.int v_t_latest_count, .ref a_t_latest_word, .ref a_t_latest_touched])), (a_t_latest_touched, .inl (en_I E, 36, .inl v_t_latest_touched)), (a_t_latest_word, .inl (en_J E, 36, .inr (.inl v_t_latest_word))), (a_t_laws, .inr (1, [.int v_t_laws_count, .int v_t_laws_touched, .ref a_t_laws_how, .ref a_t_laws_into, .ref a_t_laws_kind, .ref a_t_laws_setKind, .ref a_t_laws_setYes, .ref a_t_laws_setNo, .ref a_t_laws_fitting])), (a_t_laws_fitting, .inl (en_I E, 48, .inl v_t_laws_fitting)), (a_t_laws_how, .inl (en_I E, 16, .inl v_t_laws_how)), (a_t_laws_into, .inl (en_I E, 16, .inl v_t_laws_into)), (a_t_laws_kind, .inl (en_I E, 16, .inl v_t_laws_kind)), (a_t_laws_setKind, .inl (en_I E, 48, .inl v_t_laws_setKind)), (a_t_laws_setNo, .inl (en_I E, 48, .inl v_t_laws_setNo)), (a_t_laws_setYes, .inl (en_I E, 48, .inl v_t_laws_setYes)), (a_t_meanings, .inr (2, [.int v_t_meanings_count, .ref a_t_meanings_form])), (a_t_meanings_form, .inl (en_JJ E, 8, .inr (.inr (.inr (.inr (go_ 8 r_t_meanings_form)))))), (r_t_meanings_form 0, .inl (en_J E, 6, .inr (.inl (v_t_meanings_form 0)))), (r_t_meanings_form 1, .inl (en_J E, 6, .inr (.inl (v_t_meanings_form 1)))), (r_t_meanings_form 2, .inl (en_J E, 6, .inr (.inl (v_t_meanings_form 2)))), (r_t_meanings_form 3, .inl (en_J E, 6, .inr (.inl (v_t_meanings_form 3)))), (r_t_meanings_form 4, .inl (en_J E, 6, .inr (.inl (v_t_meanings_form 4)))), (r_t_meanings_form 5, .inl (en_J E, 6, .inr (.inl (v_t_meanings_form 5)))), (r_t_meanings_form 6, .inl (en_J E, 6, .inr (.inl (v_t_meanings_form 6)))), (r_t_meanings_form 7, .inl (en_J E, 6, .inr (.inl (v_t_meanings_form 7)))), (a_t_sounds, .inr (5, [.int v_t_sounds_count, .int v_t_sounds_missingRows, .ref a_t_sounds_kind, .ref a_t_sounds_yes, .ref a_t_sounds_no])), (a_t_sounds_kind, .inl (en_I E, 8, .inl v_t_sounds_kind)), (a_t_sounds_no, .inl (en_I E, 8, .inl v_t_sounds_no)), (a_t_sounds_yes, .inl (en_I E, 8, .inl v_t_sounds_yes)), (a_t_tongues, .inr (7, [.int v_t_tongues_count, .ref a_t_tongues_parent, .ref a_t_tongues_ownCount, .ref a_t_tongues_own])), (a_t_tongues_own, .inl (en_II E, 6, .inr (.inr (.inr (.inr (go_ 6 r_t_tongues_own)))))), (r_t_tongues_own 0, .inl (en_I E, 6, .inl (v_t_tongues_own 0))), (r_t_tongues_own 1, .inl (en_I E, 6, .inl (v_t_tongues_own 1))), (r_t_tongues_own 2, .inl (en_I E, 6, .inl (v_t_tongues_own 2))), (r_t_tongues_own 3, .inl (en_I E, 6, .inl (v_t_tongues_own 3))), (r_t_tongues_own 4, .inl (en_I E, 6, .inl (v_t_tongues_own 4))), (r_t_tongues_own 5, .inl (en_I E, 6, .inl (v_t_tongues_own 5))), (a_t_tongues_ownCount, .inl (en_I E, 6, .inl v_t_tongues_ownCount)), (a_t_tongues_parent, .inl (en_I E, 6, .inl v_t_tongues_parent))]
def F_X6_takeOver_0  (v_p1_word : Int64) (v_p1_outcome : Int64) (v_p1_gap : Int32) (v_p1_latest_count : Int32) (v_p1_latest_touched : (Nat → Int32)) (v_p1_latest_word : (Nat → Int64)) (v_p1_laws_count : Int32) (v_p1_laws_fitting : (Nat → Int32)) (v_p1_laws_how : (Nat → Int32)) (v_p1_laws_into : (Nat → Int32)) (v_p1_laws_kind : (Nat → Int32)) (v_p1_laws_setKind : (Nat → Int32)) (v_p1_laws_setNo : (Nat → Int32)) (v_p1_laws_setYes : (Nat → Int32)) (v_p1_meanings_count : Int32) (v_p1_meanings_form : (Nat → Nat → Int64)) (v_p1_sounds_count : Int32) (v_p1_sounds_missingRows : Int32) (v_p1_sounds_kind : (Nat → Int32)) (v_p1_sounds_no : (Nat → Int32)) (v_p1_sounds_yes : (Nat → Int32)) (v_p1_tongues_count : Int32) (v_p1_tongues_own : (Nat → Nat → Int32)) (v_p1_tongues_ownCount : (Nat → Int32)) (v_p1_tongues_parent : (Nat → Int32)) (v_t_word : Int64) (v_t_outcome : Int64) (v_t_gap : Int32) (v_t_latest_count : Int32) (v_t_latest_touched : (Nat → Int32)) (v_t_latest_word : (Nat → Int64)) (v_t_laws_count : Int32) (v_t_laws_fitting : (Nat → Int32)) (v_t_laws_how : (Nat → Int32)) (v_t_laws_into : (Nat → Int32)) (v_t_laws_kind : (Nat → Int32)) (v_t_laws_setKind : (Nat → Int32)) (v_t_laws_setNo : (Nat → Int32)) (v_t_laws_setYes : (Nat → Int32)) (v_t_meanings_count : Int32) (v_t_meanings_form : (Nat → Nat → Int64)) (v_t_sounds_count : Int32) (v_t_sounds_missingRows : Int32) (v_t_sounds_kind : (Nat → Int32)) (v_t_sounds_no : (Nat → Int32)) (v_t_sounds_yes : (Nat → Int32)) (v_t_tongues_count : Int32) (v_t_tongues_own : (Nat → Nat → Int32)) (v_t_tongues_ownCount : (Nat → Int32)) (v_t_tongues_parent : (Nat → Int32)) : Option (Int64 × Int64 × Int32 × Int32 × (Nat → Int32) × (Nat → Int64) × Int32 × (Nat → Int32) × (Nat → Int32) × (Nat → Int32) × (Nat → Int32) × (Nat → Int32) × (Nat → Int32) × (Nat → Int32) × Int32 × (Nat → Nat → Int64) × Int32 × Int32 × (Nat → Int32) × (Nat → Int32) × (Nat → Int32) × Int32 × (Nat → Nat → Int32) × (Nat → Int32) × (Nat → Int32)) := bn5_ (F_X5_copyFrom v_p1_sounds_count v_p1_sounds_missingRows v_p1_sounds_kind v_p1_sounds_no v_p1_sounds_yes v_t_sounds_count v_t_sounds_missingRows v_t_sounds_kind v_t_sounds_no v_t_sounds_yes) (fun o1 o2 o3 o4 o5 => bn8_ (F_X1_copyFrom v_p1_laws_count v_p1_laws_fitting v_p1_laws_how v_p1_laws_into v_p1_laws_kind v_p1_laws_setKind v_p1_laws_setNo v_p1_laws_setYes v_t_laws_count v_t_laws_fitting v_t_laws_how v_t_laws_into v_t_laws_kind v_t_laws_setKind v_t_laws_setNo v_t_laws_setYes) (fun o7 o8 o9 o10 o11 o12 o13 o14 => bn4_ (F_X7_copyFrom v_p1_tongues_count v_p1_tongues_own v_p1_tongues_ownCount v_p1_tongues_parent v_t_tongues_count v_t_tongues_own v_t_tongues_ownCount v_t_tongues_parent) (fun o16 o17 o18 o19 => bn2_ (F_X2_copyFrom v_p1_meanings_count v_p1_meanings_form v_t_meanings_count v_t_meanings_form) (fun o21 o22 => bn3_ (F_X3_copyFrom v_p1_latest_count v_p1_latest_touched v_p1_latest_word v_t_latest_count v_t_latest_touched v_t_latest_word) (fun o24 o25 o26 => lt_ v_p1_word (fun y28 => lt_ v_p1_outcome (fun y29 => lt_ v_p1_gap (fun y30 => some (y28, y29, y30, o24, o25, o26, o7, o8, o9, o10, o11, o12, o13, o14, o21, o22, o1, o2, o3, o4, o5, o16, o17, o18, o19)))))))))
set_option maxHeartbeats 4000000 in
theorem w_X6_takeOver_0 {B : bu_T} {a_p1 a_p1_sounds a_p1_laws a_p1_tongues a_p1_meanings a_p1_latest a_p1_latest_word a_p1_latest_touched a_p1_laws_how a_p1_laws_into a_p1_laws_kind a_p1_laws_setKind a_p1_laws_setYes a_p1_laws_setNo a_p1_laws_fitting a_p1_meanings_form a_p1_sounds_kind a_p1_sounds_yes a_p1_sounds_no a_p1_tongues_parent a_p1_tongues_ownCount a_p1_tongues_own a_t a_t_sounds a_t_laws a_t_tongues a_t_meanings a_t_latest a_t_latest_word a_t_latest_touched a_t_laws_how a_t_laws_into a_t_laws_kind a_t_laws_setKind a_t_laws_setYes a_t_laws_setNo a_t_laws_fitting a_t_meanings_form a_t_sounds_kind a_t_sounds_yes a_t_sounds_no a_t_tongues_parent a_t_tongues_ownCount a_t_tongues_own : Nat} {r_p1_meanings_form r_p1_tongues_own r_t_meanings_form r_t_tongues_own : Nat → Nat} {v_p1_word : Int64} {v_p1_outcome : Int64} {v_p1_gap : Int32} {v_p1_latest_count : Int32} {v_p1_latest_touched : (Nat → Int32)} {v_p1_latest_word : (Nat → Int64)} {v_p1_laws_count : Int32} {v_p1_laws_touched : Int32} {v_p1_laws_fitting : (Nat → Int32)} {v_p1_laws_how : (Nat → Int32)} {v_p1_laws_into : (Nat → Int32)} {v_p1_laws_kind : (Nat → Int32)} {v_p1_laws_setKind : (Nat → Int32)} {v_p1_laws_setNo : (Nat → Int32)} {v_p1_laws_setYes : (Nat → Int32)} {v_p1_meanings_count : Int32} {v_p1_meanings_form : (Nat → Nat → Int64)} {v_p1_sounds_count : Int32} {v_p1_sounds_missingRows : Int32} {v_p1_sounds_kind : (Nat → Int32)} {v_p1_sounds_no : (Nat → Int32)} {v_p1_sounds_yes : (Nat → Int32)} {v_p1_tongues_count : Int32} {v_p1_tongues_own : (Nat → Nat → Int32)} {v_p1_tongues_ownCount : (Nat → Int32)} {v_p1_tongues_parent : (Nat → Int32)} {v_t_word : Int64} {v_t_outcome : Int64} {v_t_gap : Int32} {v_t_latest_count : Int32} {v_t_latest_touched : (Nat → Int32)} {v_t_latest_word : (Nat → Int64)} {v_t_laws_count : Int32} {v_t_laws_touched : Int32} {v_t_laws_fitting : (Nat → Int32)} {v_t_laws_how : (Nat → Int32)} {v_t_laws_into : (Nat → Int32)} {v_t_laws_kind : (Nat → Int32)} {v_t_laws_setKind : (Nat → Int32)} {v_t_laws_setNo : (Nat → Int32)} {v_t_laws_setYes : (Nat → Int32)} {v_t_meanings_count : Int32} {v_t_meanings_form : (Nat → Nat → Int64)} {v_t_sounds_count : Int32} {v_t_sounds_missingRows : Int32} {v_t_sounds_kind : (Nat → Int32)} {v_t_sounds_no : (Nat → Int32)} {v_t_sounds_yes : (Nat → Int32)} {v_t_tongues_count : Int32} {v_t_tongues_own : (Nat → Nat → Int32)} {v_t_tongues_ownCount : (Nat → Int32)} {v_t_tongues_parent : (Nat → Int32)} {o_t_word : Int64} {o_t_outcome : Int64} {o_t_gap : Int32} {o_t_latest_count : Int32} {o_t_latest_touched : (Nat → Int32)} {o_t_latest_word : (Nat → Int64)} {o_t_laws_count : Int32} {o_t_laws_fitting : (Nat → Int32)} {o_t_laws_how : (Nat → Int32)} {o_t_laws_into : (Nat → Int32)} {o_t_laws_kind : (Nat → Int32)} {o_t_laws_setKind : (Nat → Int32)} {o_t_laws_setNo : (Nat → Int32)} {o_t_laws_setYes : (Nat → Int32)} {o_t_meanings_count : Int32} {o_t_meanings_form : (Nat → Nat → Int64)} {o_t_sounds_count : Int32} {o_t_sounds_missingRows : Int32} {o_t_sounds_kind : (Nat → Int32)} {o_t_sounds_no : (Nat → Int32)} {o_t_sounds_yes : (Nat → Int32)} {o_t_tongues_count : Int32} {o_t_tongues_own : (Nat → Nat → Int32)} {o_t_tongues_ownCount : (Nat → Int32)} {o_t_tongues_parent : (Nat → Int32)} (K : cx B cX6_takeOver "SoundDesk$State" rm_X6_takeOver 2) (hQ : rt B cX6_takeOver 2 none rm_X6_takeOver none (fun x => x = (W_X6_takeOver (bu_E B) a_p1 a_p1_sounds a_p1_laws a_p1_tongues a_p1_meanings a_p1_latest a_p1_latest_word a_p1_latest_touched a_p1_laws_how a_p1_laws_into a_p1_laws_kind a_p1_laws_setKind a_p1_laws_setYes a_p1_laws_setNo a_p1_laws_fitting a_p1_meanings_form a_p1_sounds_kind a_p1_sounds_yes a_p1_sounds_no a_p1_tongues_parent a_p1_tongues_ownCount a_p1_tongues_own a_t a_t_sounds a_t_laws a_t_tongues a_t_meanings a_t_latest a_t_latest_word a_t_latest_touched a_t_laws_how a_t_laws_into a_t_laws_kind a_t_laws_setKind a_t_laws_setYes a_t_laws_setNo a_t_laws_fitting a_t_meanings_form a_t_sounds_kind a_t_sounds_yes a_t_sounds_no a_t_tongues_parent a_t_tongues_ownCount a_t_tongues_own r_p1_meanings_form r_p1_tongues_own r_t_meanings_form r_t_tongues_own v_p1_word v_p1_outcome v_p1_gap v_p1_latest_count v_p1_latest_touched v_p1_latest_word v_p1_laws_count v_p1_laws_touched v_p1_laws_fitting v_p1_laws_how v_p1_laws_into v_p1_laws_kind v_p1_laws_setKind v_p1_laws_setNo v_p1_laws_setYes v_p1_meanings_count v_p1_meanings_form v_p1_sounds_count v_p1_sounds_missingRows v_p1_sounds_kind v_p1_sounds_no v_p1_sounds_yes v_p1_tongues_count v_p1_tongues_own v_p1_tongues_ownCount v_p1_tongues_parent o_t_word o_t_outcome o_t_gap o_t_latest_count o_t_latest_touched o_t_latest_word o_t_laws_count v_t_laws_touched o_t_laws_fitting o_t_laws_how o_t_laws_into o_t_laws_kind o_t_laws_setKind o_t_laws_setNo o_t_laws_setYes o_t_meanings_count o_t_meanings_form o_t_sounds_count o_t_sounds_missingRows o_t_sounds_kind o_t_sounds_no o_t_sounds_yes o_t_tongues_count o_t_tongues_own o_t_tongues_ownCount o_t_tongues_parent)))  (hF : F_X6_takeOver_0  v_p1_word v_p1_outcome v_p1_gap v_p1_latest_count v_p1_latest_touched v_p1_latest_word v_p1_laws_count v_p1_laws_fitting v_p1_laws_how v_p1_laws_into v_p1_laws_kind v_p1_laws_setKind v_p1_laws_setNo v_p1_laws_setYes v_p1_meanings_count v_p1_meanings_form v_p1_sounds_count v_p1_sounds_missingRows v_p1_sounds_kind v_p1_sounds_no v_p1_sounds_yes v_p1_tongues_count v_p1_tongues_own v_p1_tongues_ownCount v_p1_tongues_parent v_t_word v_t_outcome v_t_gap v_t_latest_count v_t_latest_touched v_t_latest_word v_t_laws_count v_t_laws_fitting v_t_laws_how v_t_laws_into v_t_laws_kind v_t_laws_setKind v_t_laws_setNo v_t_laws_setYes v_t_meanings_count v_t_meanings_form v_t_sounds_count v_t_sounds_missingRows v_t_sounds_kind v_t_sounds_no v_t_sounds_yes v_t_tongues_count v_t_tongues_own v_t_tongues_ownCount v_t_tongues_parent = some (o_t_word, o_t_outcome, o_t_gap, o_t_latest_count, o_t_latest_touched, o_t_latest_word, o_t_laws_count, o_t_laws_fitting, o_t_laws_how, o_t_laws_into, o_t_laws_kind, o_t_laws_setKind, o_t_laws_setNo, o_t_laws_setYes, o_t_meanings_count, o_t_meanings_form, o_t_sounds_count, o_t_sounds_missingRows, o_t_sounds_kind, o_t_sounds_no, o_t_sounds_yes, o_t_tongues_count, o_t_tongues_own, o_t_tongues_ownCount, o_t_tongues_parent)) : gg B 2 0 0 0 [(0, .ref a_t), (1, .ref a_p1)] [] (W_X6_takeOver (bu_E B) a_p1 a_p1_sounds a_p1_laws a_p1_tongues a_p1_meanings a_p1_latest a_p1_latest_word a_p1_latest_touched a_p1_laws_how a_p1_laws_into a_p1_laws_kind a_p1_laws_setKind a_p1_laws_setYes a_p1_laws_setNo a_p1_laws_fitting a_p1_meanings_form a_p1_sounds_kind a_p1_sounds_yes a_p1_sounds_no a_p1_tongues_parent a_p1_tongues_ownCount a_p1_tongues_own a_t a_t_sounds a_t_laws a_t_tongues a_t_meanings a_t_latest a_t_latest_word a_t_latest_touched a_t_laws_how a_t_laws_into a_t_laws_kind a_t_laws_setKind a_t_laws_setYes a_t_laws_setNo a_t_laws_fitting a_t_meanings_form a_t_sounds_kind a_t_sounds_yes a_t_sounds_no a_t_tongues_parent a_t_tongues_ownCount a_t_tongues_own r_p1_meanings_form r_p1_tongues_own r_t_meanings_form r_t_tongues_own v_p1_word v_p1_outcome v_p1_gap v_p1_latest_count v_p1_latest_touched v_p1_latest_word v_p1_laws_count v_p1_laws_touched v_p1_laws_fitting v_p1_laws_how v_p1_laws_into v_p1_laws_kind v_p1_laws_setKind v_p1_laws_setNo v_p1_laws_setYes v_p1_meanings_count v_p1_meanings_form v_p1_sounds_count v_p1_sounds_missingRows v_p1_sounds_kind v_p1_sounds_no v_p1_sounds_yes v_p1_tongues_count v_p1_tongues_own v_p1_tongues_ownCount v_p1_tongues_parent v_t_word v_t_outcome v_t_gap v_t_latest_count v_t_latest_touched v_t_latest_word v_t_laws_count v_t_laws_touched v_t_laws_fitting v_t_laws_how v_t_laws_into v_t_laws_kind v_t_laws_setKind v_t_laws_setNo v_t_laws_setYes v_t_meanings_count v_t_meanings_form v_t_sounds_count v_t_sounds_missingRows v_t_sounds_kind v_t_sounds_no v_t_sounds_yes v_t_tongues_count v_t_tongues_own v_t_tongues_ownCount v_t_tongues_parent) := by
  unfold F_X6_takeOver_0 at hF
  refine gg_aload_n (pc := 0) K 0 dX6_takeOver_0 rfl rfl ?_
  refine gg_get (pc := 1) K 36 0 i_X6 rfl rfl (by decide) q_1_174 rfl dX6_takeOver_1 ?_
  refine gg_aload_n (pc := 4) K 1 dX6_takeOver_4 rfl rfl ?_
  refine gg_get (pc := 5) K 0 0 i_X6 rfl rfl (by decide) q_1_174 rfl dX6_takeOver_5 ?_
  obtain ⟨o1, o2, o3, o4, o5, hc6, hF⟩ := bn5_some hF
  refine gg_dV (pc := 8) (st' := []) (rest := []) (w' := (W_X6_takeOver (bu_E B) a_p1 a_p1_sounds a_p1_laws a_p1_tongues a_p1_meanings a_p1_latest a_p1_latest_word a_p1_latest_touched a_p1_laws_how a_p1_laws_into a_p1_laws_kind a_p1_laws_setKind a_p1_laws_setYes a_p1_laws_setNo a_p1_laws_fitting a_p1_meanings_form a_p1_sounds_kind a_p1_sounds_yes a_p1_sounds_no a_p1_tongues_parent a_p1_tongues_ownCount a_p1_tongues_own a_t a_t_sounds a_t_laws a_t_tongues a_t_meanings a_t_latest a_t_latest_word a_t_latest_touched a_t_laws_how a_t_laws_into a_t_laws_kind a_t_laws_setKind a_t_laws_setYes a_t_laws_setNo a_t_laws_fitting a_t_meanings_form a_t_sounds_kind a_t_sounds_yes a_t_sounds_no a_t_tongues_parent a_t_tongues_ownCount a_t_tongues_own r_p1_meanings_form r_p1_tongues_own r_t_meanings_form r_t_tongues_own v_p1_word v_p1_outcome v_p1_gap v_p1_latest_count v_p1_latest_touched v_p1_latest_word v_p1_laws_count v_p1_laws_touched v_p1_laws_fitting v_p1_laws_how v_p1_laws_into v_p1_laws_kind v_p1_laws_setKind v_p1_laws_setNo v_p1_laws_setYes v_p1_meanings_count v_p1_meanings_form v_p1_sounds_count v_p1_sounds_missingRows v_p1_sounds_kind v_p1_sounds_no v_p1_sounds_yes v_p1_tongues_count v_p1_tongues_own v_p1_tongues_ownCount v_p1_tongues_parent v_t_word v_t_outcome v_t_gap v_t_latest_count v_t_latest_touched v_t_latest_word v_t_laws_count v_t_laws_touched v_t_laws_fitting v_t_laws_how v_t_laws_into v_t_laws_kind v_t_laws_setKind v_t_laws_setNo v_t_laws_setYes v_t_meanings_count v_t_meanings_form o1 o2 o3 o4 o5 v_t_tongues_count v_t_tongues_own v_t_tongues_ownCount v_t_tongues_parent)) K (c_X5_copyFrom (bu_l B) (bu_E B) a_p1_sounds a_p1_sounds_kind a_p1_sounds_yes a_p1_sounds_no a_t_sounds a_t_sounds_kind a_t_sounds_yes a_t_sounds_no v_p1_sounds_count v_p1_sounds_missingRows v_p1_sounds_kind v_p1_sounds_no v_p1_sounds_yes v_t_sounds_count v_t_sounds_missingRows v_t_sounds_kind v_t_sounds_no v_t_sounds_yes hc6) ⟨rfl, rfl⟩ q_4_33 q_4_34 q_4_35 q_1_4 q_4_36 n_X5_copyFrom ⟨(Nat.le_of_ble_eq_true rfl), (Nat.le_of_ble_eq_true rfl)⟩ (ci := 5) rfl 58 rfl [22, 23, 24, 25, 58, 59, 60, 61] [false, false, false, false, false, false, false, false, false, false, false, false, false, false, false, false, false, false, false, false, false, false, true, true, true, true, false, false, false, false, false, false, false, false, false, false, false, false, false, false, false, false, false, false, false, false, false, false, false, false, false, false, false, false, false, false, false, false, true, true, true, true, false, false, false, false, false, false, false, false, false, false] rfl rfl rfl rfl rfl rfl (by decide) rfl rfl rfl ⟨Nat.zero_le _, Nat.zero_le _⟩ (Nat.le_of_ble_eq_true rfl) dX6_takeOver_8 ?_
  refine gg_aload_n (pc := 11) K 0 dX6_takeOver_11 rfl rfl ?_
  refine gg_get (pc := 12) K 36 1 i_X6 rfl rfl (by decide) q_1_177 rfl dX6_takeOver_12 ?_
  refine gg_aload_n (pc := 15) K 1 dX6_takeOver_15 rfl rfl ?_
  refine gg_get (pc := 16) K 0 1 i_X6 rfl rfl (by decide) q_1_177 rfl dX6_takeOver_16 ?_
  obtain ⟨o7, o8, o9, o10, o11, o12, o13, o14, hc15, hF⟩ := bn8_some hF
  refine gg_dV (pc := 19) (st' := []) (rest := []) (w' := (W_X6_takeOver (bu_E B) a_p1 a_p1_sounds a_p1_laws a_p1_tongues a_p1_meanings a_p1_latest a_p1_latest_word a_p1_latest_touched a_p1_laws_how a_p1_laws_into a_p1_laws_kind a_p1_laws_setKind a_p1_laws_setYes a_p1_laws_setNo a_p1_laws_fitting a_p1_meanings_form a_p1_sounds_kind a_p1_sounds_yes a_p1_sounds_no a_p1_tongues_parent a_p1_tongues_ownCount a_p1_tongues_own a_t a_t_sounds a_t_laws a_t_tongues a_t_meanings a_t_latest a_t_latest_word a_t_latest_touched a_t_laws_how a_t_laws_into a_t_laws_kind a_t_laws_setKind a_t_laws_setYes a_t_laws_setNo a_t_laws_fitting a_t_meanings_form a_t_sounds_kind a_t_sounds_yes a_t_sounds_no a_t_tongues_parent a_t_tongues_ownCount a_t_tongues_own r_p1_meanings_form r_p1_tongues_own r_t_meanings_form r_t_tongues_own v_p1_word v_p1_outcome v_p1_gap v_p1_latest_count v_p1_latest_touched v_p1_latest_word v_p1_laws_count v_p1_laws_touched v_p1_laws_fitting v_p1_laws_how v_p1_laws_into v_p1_laws_kind v_p1_laws_setKind v_p1_laws_setNo v_p1_laws_setYes v_p1_meanings_count v_p1_meanings_form v_p1_sounds_count v_p1_sounds_missingRows v_p1_sounds_kind v_p1_sounds_no v_p1_sounds_yes v_p1_tongues_count v_p1_tongues_own v_p1_tongues_ownCount v_p1_tongues_parent v_t_word v_t_outcome v_t_gap v_t_latest_count v_t_latest_touched v_t_latest_word o7 v_t_laws_touched o8 o9 o10 o11 o12 o13 o14 v_t_meanings_count v_t_meanings_form o1 o2 o3 o4 o5 v_t_tongues_count v_t_tongues_own v_t_tongues_ownCount v_t_tongues_parent)) K (c_X1_copyFrom (bu_l B) (bu_E B) a_p1_laws a_p1_laws_how a_p1_laws_into a_p1_laws_kind a_p1_laws_setKind a_p1_laws_setYes a_p1_laws_setNo a_p1_laws_fitting a_t_laws a_t_laws_how a_t_laws_into a_t_laws_kind a_t_laws_setKind a_t_laws_setYes a_t_laws_setNo a_t_laws_fitting v_p1_laws_count v_p1_laws_touched v_p1_laws_fitting v_p1_laws_how v_p1_laws_into v_p1_laws_kind v_p1_laws_setKind v_p1_laws_setNo v_p1_laws_setYes v_t_laws_count v_t_laws_touched v_t_laws_fitting v_t_laws_how v_t_laws_into v_t_laws_kind v_t_laws_setKind v_t_laws_setNo v_t_laws_setYes hc15) ⟨rfl, rfl⟩ q_4_38 q_4_39 q_4_40 q_1_5 q_4_41 n_X1_copyFrom ⟨(Nat.le_of_ble_eq_true rfl), (Nat.le_of_ble_eq_true rfl)⟩ (ci := 1) rfl 40 rfl [4, 5, 6, 7, 8, 9, 10, 11, 40, 41, 42, 43, 44, 45, 46, 47] [false, false, false, false, true, true, true, true, true, true, true, true, false, false, false, false, false, false, false, false, false, false, false, false, false, false, false, false, false, false, false, false, false, false, false, false, false, false, false, false, true, true, true, true, true, true, true, true, false, false, false, false, false, false, false, false, false, false, false, false, false, false, false, false, false, false, false, false, false, false, false, false] rfl rfl rfl rfl rfl rfl (by decide) rfl rfl rfl ⟨Nat.zero_le _, Nat.zero_le _⟩ (Nat.le_of_ble_eq_true rfl) dX6_takeOver_19 ?_
  refine gg_aload_n (pc := 22) K 0 dX6_takeOver_22 rfl rfl ?_
  refine gg_get (pc := 23) K 36 2 i_X6 rfl rfl (by decide) q_1_180 rfl dX6_takeOver_23 ?_
  refine gg_aload_n (pc := 26) K 1 dX6_takeOver_26 rfl rfl ?_
  refine gg_get (pc := 27) K 0 2 i_X6 rfl rfl (by decide) q_1_180 rfl dX6_takeOver_27 ?_
  obtain ⟨o16, o17, o18, o19, hc20, hF⟩ := bn4_some hF
  refine gg_dV (pc := 30) (st' := []) (rest := []) (w' := (W_X6_takeOver (bu_E B) a_p1 a_p1_sounds a_p1_laws a_p1_tongues a_p1_meanings a_p1_latest a_p1_latest_word a_p1_latest_touched a_p1_laws_how a_p1_laws_into a_p1_laws_kind a_p1_laws_setKind a_p1_laws_setYes a_p1_laws_setNo a_p1_laws_fitting a_p1_meanings_form a_p1_sounds_kind a_p1_sounds_yes a_p1_sounds_no a_p1_tongues_parent a_p1_tongues_ownCount a_p1_tongues_own a_t a_t_sounds a_t_laws a_t_tongues a_t_meanings a_t_latest a_t_latest_word a_t_latest_touched a_t_laws_how a_t_laws_into a_t_laws_kind a_t_laws_setKind a_t_laws_setYes a_t_laws_setNo a_t_laws_fitting a_t_meanings_form a_t_sounds_kind a_t_sounds_yes a_t_sounds_no a_t_tongues_parent a_t_tongues_ownCount a_t_tongues_own r_p1_meanings_form r_p1_tongues_own r_t_meanings_form r_t_tongues_own v_p1_word v_p1_outcome v_p1_gap v_p1_latest_count v_p1_latest_touched v_p1_latest_word v_p1_laws_count v_p1_laws_touched v_p1_laws_fitting v_p1_laws_how v_p1_laws_into v_p1_laws_kind v_p1_laws_setKind v_p1_laws_setNo v_p1_laws_setYes v_p1_meanings_count v_p1_meanings_form v_p1_sounds_count v_p1_sounds_missingRows v_p1_sounds_kind v_p1_sounds_no v_p1_sounds_yes v_p1_tongues_count v_p1_tongues_own v_p1_tongues_ownCount v_p1_tongues_parent v_t_word v_t_outcome v_t_gap v_t_latest_count v_t_latest_touched v_t_latest_word o7 v_t_laws_touched o8 o9 o10 o11 o12 o13 o14 v_t_meanings_count v_t_meanings_form o1 o2 o3 o4 o5 o16 o17 o18 o19)) K (c_X7_copyFrom (bu_l B) (bu_E B) a_p1_tongues a_p1_tongues_parent a_p1_tongues_ownCount a_p1_tongues_own a_t_tongues a_t_tongues_parent a_t_tongues_ownCount a_t_tongues_own r_p1_tongues_own r_t_tongues_own v_p1_tongues_count v_p1_tongues_own v_p1_tongues_ownCount v_p1_tongues_parent v_t_tongues_count v_t_tongues_own v_t_tongues_ownCount v_t_tongues_parent hc20) ⟨rfl, rfl⟩ q_4_43 q_4_44 q_4_45 q_1_6 q_4_46 n_X7_copyFrom ⟨(Nat.le_of_ble_eq_true rfl), (Nat.le_of_ble_eq_true rfl)⟩ (ci := 7) rfl 62 rfl [26, 27, 28, 29, 30, 31, 32, 33, 34, 35, 62, 63, 64, 65, 66, 67, 68, 69, 70, 71] [false, false, false, false, false, false, false, false, false, false, false, false, false, false, false, false, false, false, false, false, false, false, false, false, false, false, true, true, true, true, true, true, true, true, true, true, false, false, false, false, false, false, false, false, false, false, false, false, false, false, false, false, false, false, false, false, false, false, false, false, false, false, true, true, true, true, true, true, true, true, true, true] rfl rfl rfl rfl rfl rfl (by decide) rfl rfl rfl ⟨Nat.zero_le _, Nat.zero_le _⟩ (Nat.le_of_ble_eq_true rfl) dX6_takeOver_30 ?_
  refine gg_aload_n (pc := 33) K 0 dX6_takeOver_33 rfl rfl ?_
  refine gg_get (pc := 34) K 36 3 i_X6 rfl rfl (by decide) q_1_183 rfl dX6_takeOver_34 ?_
  refine gg_aload_n (pc := 37) K 1 dX6_takeOver_37 rfl rfl ?_
  refine gg_get (pc := 38) K 0 3 i_X6 rfl rfl (by decide) q_1_183 rfl dX6_takeOver_38 ?_
  obtain ⟨o21, o22, hc23, hF⟩ := bn2_some hF
  refine gg_dV (pc := 41) (st' := []) (rest := []) (w' := (W_X6_takeOver (bu_E B) a_p1 a_p1_sounds a_p1_laws a_p1_tongues a_p1_meanings a_p1_latest a_p1_latest_word a_p1_latest_touched a_p1_laws_how a_p1_laws_into a_p1_laws_kind a_p1_laws_setKind a_p1_laws_setYes a_p1_laws_setNo a_p1_laws_fitting a_p1_meanings_form a_p1_sounds_kind a_p1_sounds_yes a_p1_sounds_no a_p1_tongues_parent a_p1_tongues_ownCount a_p1_tongues_own a_t a_t_sounds a_t_laws a_t_tongues a_t_meanings a_t_latest a_t_latest_word a_t_latest_touched a_t_laws_how a_t_laws_into a_t_laws_kind a_t_laws_setKind a_t_laws_setYes a_t_laws_setNo a_t_laws_fitting a_t_meanings_form a_t_sounds_kind a_t_sounds_yes a_t_sounds_no a_t_tongues_parent a_t_tongues_ownCount a_t_tongues_own r_p1_meanings_form r_p1_tongues_own r_t_meanings_form r_t_tongues_own v_p1_word v_p1_outcome v_p1_gap v_p1_latest_count v_p1_latest_touched v_p1_latest_word v_p1_laws_count v_p1_laws_touched v_p1_laws_fitting v_p1_laws_how v_p1_laws_into v_p1_laws_kind v_p1_laws_setKind v_p1_laws_setNo v_p1_laws_setYes v_p1_meanings_count v_p1_meanings_form v_p1_sounds_count v_p1_sounds_missingRows v_p1_sounds_kind v_p1_sounds_no v_p1_sounds_yes v_p1_tongues_count v_p1_tongues_own v_p1_tongues_ownCount v_p1_tongues_parent v_t_word v_t_outcome v_t_gap v_t_latest_count v_t_latest_touched v_t_latest_word o7 v_t_laws_touched o8 o9 o10 o11 o12 o13 o14 o21 o22 o1 o2 o3 o4 o5 o16 o17 o18 o19)) K (c_X2_copyFrom (bu_l B) (bu_E B) a_p1_meanings a_p1_meanings_form a_t_meanings a_t_meanings_form r_p1_meanings_form r_t_meanings_form v_p1_meanings_count v_p1_meanings_form v_t_meanings_count v_t_meanings_form hc23) ⟨rfl, rfl⟩ q_4_48 q_4_49 q_4_50 q_1_7 q_4_51 n_X2_copyFrom ⟨(Nat.le_of_ble_eq_true rfl), (Nat.le_of_ble_eq_true rfl)⟩ (ci := 2) rfl 48 rfl [12, 13, 14, 15, 16, 17, 18, 19, 20, 21, 48, 49, 50, 51, 52, 53, 54, 55, 56, 57] [false, false, false, false, false, false, false, false, false, false, false, false, true, true, true, true, true, true, true, true, true, true, false, false, false, false, false, false, false, false, false, false, false, false, false, false, false, false, false, false, false, false, false, false, false, false, false, false, true, true, true, true, true, true, true, true, true, true, false, false, false, false, false, false, false, false, false, false, false, false, false, false] rfl rfl rfl rfl rfl rfl (by decide) rfl rfl rfl ⟨Nat.zero_le _, Nat.zero_le _⟩ (Nat.le_of_ble_eq_true rfl) dX6_takeOver_41 ?_
  refine gg_aload_n (pc := 44) K 0 dX6_takeOver_44 rfl rfl ?_
  refine gg_get (pc := 45) K 36 4 i_X6 rfl rfl (by decide) q_1_186 rfl dX6_takeOver_45 ?_
  refine gg_aload_n (pc := 48) K 1 dX6_takeOver_48 rfl rfl ?_
  refine gg_get (pc := 49) K 0 4 i_X6 rfl rfl (by decide) q_1_186 rfl dX6_takeOver_49 ?_
  obtain ⟨o24, o25, o26, hc27, hF⟩ := bn3_some hF
  refine gg_dV (pc := 52) (st' := []) (rest := []) (w' := (W_X6_takeOver (bu_E B) a_p1 a_p1_sounds a_p1_laws a_p1_tongues a_p1_meanings a_p1_latest a_p1_latest_word a_p1_latest_touched a_p1_laws_how a_p1_laws_into a_p1_laws_kind a_p1_laws_setKind a_p1_laws_setYes a_p1_laws_setNo a_p1_laws_fitting a_p1_meanings_form a_p1_sounds_kind a_p1_sounds_yes a_p1_sounds_no a_p1_tongues_parent a_p1_tongues_ownCount a_p1_tongues_own a_t a_t_sounds a_t_laws a_t_tongues a_t_meanings a_t_latest a_t_latest_word a_t_latest_touched a_t_laws_how a_t_laws_into a_t_laws_kind a_t_laws_setKind a_t_laws_setYes a_t_laws_setNo a_t_laws_fitting a_t_meanings_form a_t_sounds_kind a_t_sounds_yes a_t_sounds_no a_t_tongues_parent a_t_tongues_ownCount a_t_tongues_own r_p1_meanings_form r_p1_tongues_own r_t_meanings_form r_t_tongues_own v_p1_word v_p1_outcome v_p1_gap v_p1_latest_count v_p1_latest_touched v_p1_latest_word v_p1_laws_count v_p1_laws_touched v_p1_laws_fitting v_p1_laws_how v_p1_laws_into v_p1_laws_kind v_p1_laws_setKind v_p1_laws_setNo v_p1_laws_setYes v_p1_meanings_count v_p1_meanings_form v_p1_sounds_count v_p1_sounds_missingRows v_p1_sounds_kind v_p1_sounds_no v_p1_sounds_yes v_p1_tongues_count v_p1_tongues_own v_p1_tongues_ownCount v_p1_tongues_parent v_t_word v_t_outcome v_t_gap o24 o25 o26 o7 v_t_laws_touched o8 o9 o10 o11 o12 o13 o14 o21 o22 o1 o2 o3 o4 o5 o16 o17 o18 o19)) K (c_X3_copyFrom (bu_l B) (bu_E B) a_p1_latest a_p1_latest_word a_p1_latest_touched a_t_latest a_t_latest_word a_t_latest_touched v_p1_latest_count v_p1_latest_touched v_p1_latest_word v_t_latest_count v_t_latest_touched v_t_latest_word hc27) ⟨rfl, rfl⟩ q_4_53 q_3_35 q_3_36 q_1_8 q_3_37 n_X3_copyFrom ⟨(Nat.le_of_ble_eq_true rfl), (Nat.le_of_ble_eq_true rfl)⟩ (ci := 3) rfl 37 rfl [1, 2, 3, 37, 38, 39] [false, true, true, true, false, false, false, false, false, false, false, false, false, false, false, false, false, false, false, false, false, false, false, false, false, false, false, false, false, false, false, false, false, false, false, false, false, true, true, true, false, false, false, false, false, false, false, false, false, false, false, false, false, false, false, false, false, false, false, false, false, false, false, false, false, false, false, false, false, false, false, false] rfl rfl rfl rfl rfl rfl (by decide) rfl rfl rfl ⟨Nat.zero_le _, Nat.zero_le _⟩ (Nat.le_of_ble_eq_true rfl) dX6_takeOver_52 ?_
  refine gg_aload_n (pc := 55) K 0 dX6_takeOver_55 rfl rfl ?_
  refine gg_aload_n (pc := 56) K 1 dX6_takeOver_56 rfl rfl ?_
  refine gg_get (pc := 57) K 0 5 i_X6 rfl rfl (by decide) q_1_188 rfl dX6_takeOver_57 ?_
  refine gg_putl (pc := 60) (wf := fun zz => (W_X6_takeOver (bu_E B) a_p1 a_p1_sounds a_p1_laws a_p1_tongues a_p1_meanings a_p1_latest a_p1_latest_word a_p1_latest_touched a_p1_laws_how a_p1_laws_into a_p1_laws_kind a_p1_laws_setKind a_p1_laws_setYes a_p1_laws_setNo a_p1_laws_fitting a_p1_meanings_form a_p1_sounds_kind a_p1_sounds_yes a_p1_sounds_no a_p1_tongues_parent a_p1_tongues_ownCount a_p1_tongues_own a_t a_t_sounds a_t_laws a_t_tongues a_t_meanings a_t_latest a_t_latest_word a_t_latest_touched a_t_laws_how a_t_laws_into a_t_laws_kind a_t_laws_setKind a_t_laws_setYes a_t_laws_setNo a_t_laws_fitting a_t_meanings_form a_t_sounds_kind a_t_sounds_yes a_t_sounds_no a_t_tongues_parent a_t_tongues_ownCount a_t_tongues_own r_p1_meanings_form r_p1_tongues_own r_t_meanings_form r_t_tongues_own v_p1_word v_p1_outcome v_p1_gap v_p1_latest_count v_p1_latest_touched v_p1_latest_word v_p1_laws_count v_p1_laws_touched v_p1_laws_fitting v_p1_laws_how v_p1_laws_into v_p1_laws_kind v_p1_laws_setKind v_p1_laws_setNo v_p1_laws_setYes v_p1_meanings_count v_p1_meanings_form v_p1_sounds_count v_p1_sounds_missingRows v_p1_sounds_kind v_p1_sounds_no v_p1_sounds_yes v_p1_tongues_count v_p1_tongues_own v_p1_tongues_ownCount v_p1_tongues_parent zz v_t_outcome v_t_gap o24 o25 o26 o7 v_t_laws_touched o8 o9 o10 o11 o12 o13 o14 o21 o22 o1 o2 o3 o4 o5 o16 o17 o18 o19)) K 36 5 i_X6 tyX6_ok nmX6 rfl rfl (by decide) q_1_188 rfl (by decide +kernel) (Nat.le_of_ble_eq_true rfl) dX6_takeOver_60 hF (fun _ => rfl) (fun y28 ey28 hF => ?_)
  refine gg_aload_n (pc := 63) K 0 dX6_takeOver_63 rfl rfl ?_
  refine gg_aload_n (pc := 64) K 1 dX6_takeOver_64 rfl rfl ?_
  refine gg_get (pc := 65) K 0 6 i_X6 rfl rfl (by decide) q_1_191 rfl dX6_takeOver_65 ?_
  refine gg_putl (pc := 68) (wf := fun zz => (W_X6_takeOver (bu_E B) a_p1 a_p1_sounds a_p1_laws a_p1_tongues a_p1_meanings a_p1_latest a_p1_latest_word a_p1_latest_touched a_p1_laws_how a_p1_laws_into a_p1_laws_kind a_p1_laws_setKind a_p1_laws_setYes a_p1_laws_setNo a_p1_laws_fitting a_p1_meanings_form a_p1_sounds_kind a_p1_sounds_yes a_p1_sounds_no a_p1_tongues_parent a_p1_tongues_ownCount a_p1_tongues_own a_t a_t_sounds a_t_laws a_t_tongues a_t_meanings a_t_latest a_t_latest_word a_t_latest_touched a_t_laws_how a_t_laws_into a_t_laws_kind a_t_laws_setKind a_t_laws_setYes a_t_laws_setNo a_t_laws_fitting a_t_meanings_form a_t_sounds_kind a_t_sounds_yes a_t_sounds_no a_t_tongues_parent a_t_tongues_ownCount a_t_tongues_own r_p1_meanings_form r_p1_tongues_own r_t_meanings_form r_t_tongues_own v_p1_word v_p1_outcome v_p1_gap v_p1_latest_count v_p1_latest_touched v_p1_latest_word v_p1_laws_count v_p1_laws_touched v_p1_laws_fitting v_p1_laws_how v_p1_laws_into v_p1_laws_kind v_p1_laws_setKind v_p1_laws_setNo v_p1_laws_setYes v_p1_meanings_count v_p1_meanings_form v_p1_sounds_count v_p1_sounds_missingRows v_p1_sounds_kind v_p1_sounds_no v_p1_sounds_yes v_p1_tongues_count v_p1_tongues_own v_p1_tongues_ownCount v_p1_tongues_parent y28 zz v_t_gap o24 o25 o26 o7 v_t_laws_touched o8 o9 o10 o11 o12 o13 o14 o21 o22 o1 o2 o3 o4 o5 o16 o17 o18 o19)) K 36 6 i_X6 tyX6_ok nmX6 rfl rfl (by decide) q_1_191 rfl (by decide +kernel) (Nat.le_of_ble_eq_true rfl) dX6_takeOver_68 hF (fun _ => rfl) (fun y29 ey29 hF => ?_)
  refine gg_aload_n (pc := 71) K 0 dX6_takeOver_71 rfl rfl ?_
  refine gg_aload_n (pc := 72) K 1 dX6_takeOver_72 rfl rfl ?_
  refine gg_get (pc := 73) K 0 7 i_X6 rfl rfl (by decide) q_1_194 rfl dX6_takeOver_73 ?_
  refine gg_puti (pc := 76) (wf := fun zz => (W_X6_takeOver (bu_E B) a_p1 a_p1_sounds a_p1_laws a_p1_tongues a_p1_meanings a_p1_latest a_p1_latest_word a_p1_latest_touched a_p1_laws_how a_p1_laws_into a_p1_laws_kind a_p1_laws_setKind a_p1_laws_setYes a_p1_laws_setNo a_p1_laws_fitting a_p1_meanings_form a_p1_sounds_kind a_p1_sounds_yes a_p1_sounds_no a_p1_tongues_parent a_p1_tongues_ownCount a_p1_tongues_own a_t a_t_sounds a_t_laws a_t_tongues a_t_meanings a_t_latest a_t_latest_word a_t_latest_touched a_t_laws_how a_t_laws_into a_t_laws_kind a_t_laws_setKind a_t_laws_setYes a_t_laws_setNo a_t_laws_fitting a_t_meanings_form a_t_sounds_kind a_t_sounds_yes a_t_sounds_no a_t_tongues_parent a_t_tongues_ownCount a_t_tongues_own r_p1_meanings_form r_p1_tongues_own r_t_meanings_form r_t_tongues_own v_p1_word v_p1_outcome v_p1_gap v_p1_latest_count v_p1_latest_touched v_p1_latest_word v_p1_laws_count v_p1_laws_touched v_p1_laws_fitting v_p1_laws_how v_p1_laws_into v_p1_laws_kind v_p1_laws_setKind v_p1_laws_setNo v_p1_laws_setYes v_p1_meanings_count v_p1_meanings_form v_p1_sounds_count v_p1_sounds_missingRows v_p1_sounds_kind v_p1_sounds_no v_p1_sounds_yes v_p1_tongues_count v_p1_tongues_own v_p1_tongues_ownCount v_p1_tongues_parent y28 y29 zz o24 o25 o26 o7 v_t_laws_touched o8 o9 o10 o11 o12 o13 o14 o21 o22 o1 o2 o3 o4 o5 o16 o17 o18 o19)) K 36 7 i_X6 tyX6_ok nmX6 rfl rfl (by decide) q_1_194 rfl (by decide +kernel) (Nat.le_of_ble_eq_true rfl) dX6_takeOver_76 hF (fun _ => rfl) (fun y30 ey30 hF => ?_)
  cases hF
  exact (hQ _ _ _ rfl).1 rfl rfl dX6_takeOver_79
def F_X6_takeOver  (v_p1_word : Int64) (v_p1_outcome : Int64) (v_p1_gap : Int32) (v_p1_latest_count : Int32) (v_p1_latest_touched : (Nat → Int32)) (v_p1_latest_word : (Nat → Int64)) (v_p1_laws_count : Int32) (v_p1_laws_fitting : (Nat → Int32)) (v_p1_laws_how : (Nat → Int32)) (v_p1_laws_into : (Nat → Int32)) (v_p1_laws_kind : (Nat → Int32)) (v_p1_laws_setKind : (Nat → Int32)) (v_p1_laws_setNo : (Nat → Int32)) (v_p1_laws_setYes : (Nat → Int32)) (v_p1_meanings_count : Int32) (v_p1_meanings_form : (Nat → Nat → Int64)) (v_p1_sounds_count : Int32) (v_p1_sounds_missingRows : Int32) (v_p1_sounds_kind : (Nat → Int32)) (v_p1_sounds_no : (Nat → Int32)) (v_p1_sounds_yes : (Nat → Int32)) (v_p1_tongues_count : Int32) (v_p1_tongues_own : (Nat → Nat → Int32)) (v_p1_tongues_ownCount : (Nat → Int32)) (v_p1_tongues_parent : (Nat → Int32)) (v_t_word : Int64) (v_t_outcome : Int64) (v_t_gap : Int32) (v_t_latest_count : Int32) (v_t_latest_touched : (Nat → Int32)) (v_t_latest_word : (Nat → Int64)) (v_t_laws_count : Int32) (v_t_laws_fitting : (Nat → Int32)) (v_t_laws_how : (Nat → Int32)) (v_t_laws_into : (Nat → Int32)) (v_t_laws_kind : (Nat → Int32)) (v_t_laws_setKind : (Nat → Int32)) (v_t_laws_setNo : (Nat → Int32)) (v_t_laws_setYes : (Nat → Int32)) (v_t_meanings_count : Int32) (v_t_meanings_form : (Nat → Nat → Int64)) (v_t_sounds_count : Int32) (v_t_sounds_missingRows : Int32) (v_t_sounds_kind : (Nat → Int32)) (v_t_sounds_no : (Nat → Int32)) (v_t_sounds_yes : (Nat → Int32)) (v_t_tongues_count : Int32) (v_t_tongues_own : (Nat → Nat → Int32)) (v_t_tongues_ownCount : (Nat → Int32)) (v_t_tongues_parent : (Nat → Int32)) : Option (Int64 × Int64 × Int32 × Int32 × (Nat → Int32) × (Nat → Int64) × Int32 × (Nat → Int32) × (Nat → Int32) × (Nat → Int32) × (Nat → Int32) × (Nat → Int32) × (Nat → Int32) × (Nat → Int32) × Int32 × (Nat → Nat → Int64) × Int32 × Int32 × (Nat → Int32) × (Nat → Int32) × (Nat → Int32) × Int32 × (Nat → Nat → Int32) × (Nat → Int32) × (Nat → Int32)) := F_X6_takeOver_0 v_p1_word v_p1_outcome v_p1_gap v_p1_latest_count v_p1_latest_touched v_p1_latest_word v_p1_laws_count v_p1_laws_fitting v_p1_laws_how v_p1_laws_into v_p1_laws_kind v_p1_laws_setKind v_p1_laws_setNo v_p1_laws_setYes v_p1_meanings_count v_p1_meanings_form v_p1_sounds_count v_p1_sounds_missingRows v_p1_sounds_kind v_p1_sounds_no v_p1_sounds_yes v_p1_tongues_count v_p1_tongues_own v_p1_tongues_ownCount v_p1_tongues_parent v_t_word v_t_outcome v_t_gap v_t_latest_count v_t_latest_touched v_t_latest_word v_t_laws_count v_t_laws_fitting v_t_laws_how v_t_laws_into v_t_laws_kind v_t_laws_setKind v_t_laws_setNo v_t_laws_setYes v_t_meanings_count v_t_meanings_form v_t_sounds_count v_t_sounds_missingRows v_t_sounds_kind v_t_sounds_no v_t_sounds_yes v_t_tongues_count v_t_tongues_own v_t_tongues_ownCount v_t_tongues_parent
theorem n_X6_takeOver : yX6_takeOver.cls = "SoundDesk$State" ∧ yX6_takeOver.cls ≠ "java/lang/invoke/MethodHandle" ∧ yX6_takeOver.cls ≠ "java/lang/invoke/VarHandle" ∧ (parseMethodDescriptor yX6_takeOver.desc).map (fun d => d.parameters.length) = some 1 := by decide +kernel
theorem c_X6_takeOver (l : Launch) (E : en_T) (a_p1 a_p1_sounds a_p1_laws a_p1_tongues a_p1_meanings a_p1_latest a_p1_latest_word a_p1_latest_touched a_p1_laws_how a_p1_laws_into a_p1_laws_kind a_p1_laws_setKind a_p1_laws_setYes a_p1_laws_setNo a_p1_laws_fitting a_p1_meanings_form a_p1_sounds_kind a_p1_sounds_yes a_p1_sounds_no a_p1_tongues_parent a_p1_tongues_ownCount a_p1_tongues_own a_t a_t_sounds a_t_laws a_t_tongues a_t_meanings a_t_latest a_t_latest_word a_t_latest_touched a_t_laws_how a_t_laws_into a_t_laws_kind a_t_laws_setKind a_t_laws_setYes a_t_laws_setNo a_t_laws_fitting a_t_meanings_form a_t_sounds_kind a_t_sounds_yes a_t_sounds_no a_t_tongues_parent a_t_tongues_ownCount a_t_tongues_own : Nat) (r_p1_meanings_form r_p1_tongues_own r_t_meanings_form r_t_tongues_own : Nat → Nat)  (v_p1_word : Int64) (v_p1_outcome : Int64) (v_p1_gap : Int32) (v_p1_latest_count : Int32) (v_p1_latest_touched : (Nat → Int32)) (v_p1_latest_word : (Nat → Int64)) (v_p1_laws_count : Int32) (v_p1_laws_touched : Int32) (v_p1_laws_fitting : (Nat → Int32)) (v_p1_laws_how : (Nat → Int32)) (v_p1_laws_into : (Nat → Int32)) (v_p1_laws_kind : (Nat → Int32)) (v_p1_laws_setKind : (Nat → Int32)) (v_p1_laws_setNo : (Nat → Int32)) (v_p1_laws_setYes : (Nat → Int32)) (v_p1_meanings_count : Int32) (v_p1_meanings_form : (Nat → Nat → Int64)) (v_p1_sounds_count : Int32) (v_p1_sounds_missingRows : Int32) (v_p1_sounds_kind : (Nat → Int32)) (v_p1_sounds_no : (Nat → Int32)) (v_p1_sounds_yes : (Nat → Int32)) (v_p1_tongues_count : Int32) (v_p1_tongues_own : (Nat → Nat → Int32)) (v_p1_tongues_ownCount : (Nat → Int32)) (v_p1_tongues_parent : (Nat → Int32)) (v_t_word : Int64) (v_t_outcome : Int64) (v_t_gap : Int32) (v_t_latest_count : Int32) (v_t_latest_touched : (Nat → Int32)) (v_t_latest_word : (Nat → Int64)) (v_t_laws_count : Int32) (v_t_laws_touched : Int32) (v_t_laws_fitting : (Nat → Int32)) (v_t_laws_how : (Nat → Int32)) (v_t_laws_into : (Nat → Int32)) (v_t_laws_kind : (Nat → Int32)) (v_t_laws_setKind : (Nat → Int32)) (v_t_laws_setNo : (Nat → Int32)) (v_t_laws_setYes : (Nat → Int32)) (v_t_meanings_count : Int32) (v_t_meanings_form : (Nat → Nat → Int64)) (v_t_sounds_count : Int32) (v_t_sounds_missingRows : Int32) (v_t_sounds_kind : (Nat → Int32)) (v_t_sounds_no : (Nat → Int32)) (v_t_sounds_yes : (Nat → Int32)) (v_t_tongues_count : Int32) (v_t_tongues_own : (Nat → Nat → Int32)) (v_t_tongues_ownCount : (Nat → Int32)) (v_t_tongues_parent : (Nat → Int32)) {o_t_word : Int64} {o_t_outcome : Int64} {o_t_gap : Int32} {o_t_latest_count : Int32} {o_t_latest_touched : (Nat → Int32)} {o_t_latest_word : (Nat → Int64)} {o_t_laws_count : Int32} {o_t_laws_fitting : (Nat → Int32)} {o_t_laws_how : (Nat → Int32)} {o_t_laws_into : (Nat → Int32)} {o_t_laws_kind : (Nat → Int32)} {o_t_laws_setKind : (Nat → Int32)} {o_t_laws_setNo : (Nat → Int32)} {o_t_laws_setYes : (Nat → Int32)} {o_t_meanings_count : Int32} {o_t_meanings_form : (Nat → Nat → Int64)} {o_t_sounds_count : Int32} {o_t_sounds_missingRows : Int32} {o_t_sounds_kind : (Nat → Int32)} {o_t_sounds_no : (Nat → Int32)} {o_t_sounds_yes : (Nat → Int32)} {o_t_tongues_count : Int32} {o_t_tongues_own : (Nat → Nat → Int32)} {o_t_tongues_ownCount : (Nat → Int32)} {o_t_tongues_parent : (Nat → Int32)} (hF : F_X6_takeOver  v_p1_word v_p1_outcome v_p1_gap v_p1_latest_count v_p1_latest_touched v_p1_latest_word v_p1_laws_count v_p1_laws_fitting v_p1_laws_how v_p1_laws_into v_p1_laws_kind v_p1_laws_setKind v_p1_laws_setNo v_p1_laws_setYes v_p1_meanings_count v_p1_meanings_form v_p1_sounds_count v_p1_sounds_missingRows v_p1_sounds_kind v_p1_sounds_no v_p1_sounds_yes v_p1_tongues_count v_p1_tongues_own v_p1_tongues_ownCount v_p1_tongues_parent v_t_word v_t_outcome v_t_gap v_t_latest_count v_t_latest_touched v_t_latest_word v_t_laws_count v_t_laws_fitting v_t_laws_how v_t_laws_into v_t_laws_kind v_t_laws_setKind v_t_laws_setNo v_t_laws_setYes v_t_meanings_count v_t_meanings_form v_t_sounds_count v_t_sounds_missingRows v_t_sounds_kind v_t_sounds_no v_t_sounds_yes v_t_tongues_count v_t_tongues_own v_t_tongues_ownCount v_t_tongues_parent = some (o_t_word, o_t_outcome, o_t_gap, o_t_latest_count, o_t_latest_touched, o_t_latest_word, o_t_laws_count, o_t_laws_fitting, o_t_laws_how, o_t_laws_into, o_t_laws_kind, o_t_laws_setKind, o_t_laws_setNo, o_t_laws_setYes, o_t_meanings_count, o_t_meanings_form, o_t_sounds_count, o_t_sounds_missingRows, o_t_sounds_kind, o_t_sounds_no, o_t_sounds_yes, o_t_tongues_count, o_t_tongues_own, o_t_tongues_ownCount, o_t_tongues_parent)) : ct l yX6_takeOver cX6_takeOver 2 none rm_X6_takeOver E [.ref a_t, .ref a_p1] (W_X6_takeOver E a_p1 a_p1_sounds a_p1_laws a_p1_tongues a_p1_meanings a_p1_latest a_p1_latest_word a_p1_latest_touched a_p1_laws_how a_p1_laws_into a_p1_laws_kind a_p1_laws_setKind a_p1_laws_setYes a_p1_laws_setNo a_p1_laws_fitting a_p1_meanings_form a_p1_sounds_kind a_p1_sounds_yes a_p1_sounds_no a_p1_tongues_parent a_p1_tongues_ownCount a_p1_tongues_own a_t a_t_sounds a_t_laws a_t_tongues a_t_meanings a_t_latest a_t_latest_word a_t_latest_touched a_t_laws_how a_t_laws_into a_t_laws_kind a_t_laws_setKind a_t_laws_setYes a_t_laws_setNo a_t_laws_fitting a_t_meanings_form a_t_sounds_kind a_t_sounds_yes a_t_sounds_no a_t_tongues_parent a_t_tongues_ownCount a_t_tongues_own r_p1_meanings_form r_p1_tongues_own r_t_meanings_form r_t_tongues_own v_p1_word v_p1_outcome v_p1_gap v_p1_latest_count v_p1_latest_touched v_p1_latest_word v_p1_laws_count v_p1_laws_touched v_p1_laws_fitting v_p1_laws_how v_p1_laws_into v_p1_laws_kind v_p1_laws_setKind v_p1_laws_setNo v_p1_laws_setYes v_p1_meanings_count v_p1_meanings_form v_p1_sounds_count v_p1_sounds_missingRows v_p1_sounds_kind v_p1_sounds_no v_p1_sounds_yes v_p1_tongues_count v_p1_tongues_own v_p1_tongues_ownCount v_p1_tongues_parent v_t_word v_t_outcome v_t_gap v_t_latest_count v_t_latest_touched v_t_latest_word v_t_laws_count v_t_laws_touched v_t_laws_fitting v_t_laws_how v_t_laws_into v_t_laws_kind v_t_laws_setKind v_t_laws_setNo v_t_laws_setYes v_t_meanings_count v_t_meanings_form v_t_sounds_count v_t_sounds_missingRows v_t_sounds_kind v_t_sounds_no v_t_sounds_yes v_t_tongues_count v_t_tongues_own v_t_tongues_ownCount v_t_tongues_parent) none (fun x => x = (W_X6_takeOver E a_p1 a_p1_sounds a_p1_laws a_p1_tongues a_p1_meanings a_p1_latest a_p1_latest_word a_p1_latest_touched a_p1_laws_how a_p1_laws_into a_p1_laws_kind a_p1_laws_setKind a_p1_laws_setYes a_p1_laws_setNo a_p1_laws_fitting a_p1_meanings_form a_p1_sounds_kind a_p1_sounds_yes a_p1_sounds_no a_p1_tongues_parent a_p1_tongues_ownCount a_p1_tongues_own a_t a_t_sounds a_t_laws a_t_tongues a_t_meanings a_t_latest a_t_latest_word a_t_latest_touched a_t_laws_how a_t_laws_into a_t_laws_kind a_t_laws_setKind a_t_laws_setYes a_t_laws_setNo a_t_laws_fitting a_t_meanings_form a_t_sounds_kind a_t_sounds_yes a_t_sounds_no a_t_tongues_parent a_t_tongues_ownCount a_t_tongues_own r_p1_meanings_form r_p1_tongues_own r_t_meanings_form r_t_tongues_own v_p1_word v_p1_outcome v_p1_gap v_p1_latest_count v_p1_latest_touched v_p1_latest_word v_p1_laws_count v_p1_laws_touched v_p1_laws_fitting v_p1_laws_how v_p1_laws_into v_p1_laws_kind v_p1_laws_setKind v_p1_laws_setNo v_p1_laws_setYes v_p1_meanings_count v_p1_meanings_form v_p1_sounds_count v_p1_sounds_missingRows v_p1_sounds_kind v_p1_sounds_no v_p1_sounds_yes v_p1_tongues_count v_p1_tongues_own v_p1_tongues_ownCount v_p1_tongues_parent o_t_word o_t_outcome o_t_gap o_t_latest_count o_t_latest_touched o_t_latest_word o_t_laws_count v_t_laws_touched o_t_laws_fitting o_t_laws_how o_t_laws_into o_t_laws_kind o_t_laws_setKind o_t_laws_setNo o_t_laws_setYes o_t_meanings_count o_t_meanings_form o_t_sounds_count o_t_sounds_missingRows o_t_sounds_kind o_t_sounds_no o_t_sounds_yes o_t_tongues_count o_t_tongues_own o_t_tongues_ownCount o_t_tongues_parent)) := by
  refine ct_of (by decide +kernel) (Nat.le_of_ble_eq_true rfl) (fun B hl hE _ K hQ => ?_)
  subst hl; subst hE
  refine gg_sub (lv' := [(0, .ref a_t), (1, .ref a_p1)]) [0, 1] rfl ?_
  exact w_X6_takeOver_0 K hQ hF
theorem dX7_has_0 : decode cX7_has 0 = .ok (.iload_n 1, 1) := by decide +kernel
theorem dX7_has_1 : decode cX7_has 1 = .ok (.ifCond .lt 15, 3) := by decide +kernel
theorem dX7_has_4 : decode cX7_has 4 = .ok (.iload_n 1, 1) := by decide +kernel
theorem dX7_has_5 : decode cX7_has 5 = .ok (.aload_n 0, 1) := by decide +kernel
theorem dX7_has_6 : decode cX7_has 6 = .ok (.getfield 7, 3) := by decide +kernel
theorem dX7_has_9 : decode cX7_has 9 = .ok (.if_icmp .ge 7, 3) := by decide +kernel
theorem dX7_has_12 : decode cX7_has 12 = .ok (.iconst 1, 1) := by decide +kernel
theorem dX7_has_13 : decode cX7_has 13 = .ok (.goto 4, 3) := by decide +kernel
theorem dX7_has_16 : decode cX7_has 16 = .ok (.iconst 0, 1) := by decide +kernel
theorem dX7_has_17 : decode cX7_has 17 = .ok (.ireturn, 1) := by decide +kernel
def rm_X7_has : Room := { frames := 0, cells := 0, slots := 0, locals := 0 }
def W_X7_has (E : en_T) (a_t a_t_parent a_t_ownCount a_t_own : Nat) (v_t_count : Int32) : va_W := [(a_t, .inr (7, [.int v_t_count, .ref a_t_parent, .ref a_t_ownCount, .ref a_t_own]))]
def F_X7_has_0  (x1 : Int32) (v_t_count : Int32) : Option (Int32) := if x1 < (0 : Int32) then (some ((0 : Int32))) else (if v_t_count ≤ x1 then (some ((0 : Int32))) else (some ((1 : Int32))))
set_option maxHeartbeats 4000000 in
theorem w_X7_has_0 {B : bu_T} {a_t a_t_parent a_t_ownCount a_t_own : Nat} {v_t_count : Int32} {r : Int32}  (K : cx B cX7_has "SoundDesk$Tongues" rm_X7_has 2) (hQ : rt B cX7_has 2 (some .boolean) rm_X7_has (some (.int r)) (fun x => x = (W_X7_has (bu_E B) a_t a_t_parent a_t_ownCount a_t_own v_t_count))) {x1 : Int32} (hF : F_X7_has_0  x1 v_t_count = some (r)) : gg B 2 0 0 0 [(0, .ref a_t), (1, .int x1)] [] (W_X7_has (bu_E B) a_t a_t_parent a_t_ownCount a_t_own v_t_count) := by
  unfold F_X7_has_0 at hF
  refine gg_iload_n (pc := 0) K 1 dX7_has_0 rfl rfl ?_
  refine gg_if_lt (pc := 1) K 16 dX7_has_1 rfl hF (fun c1 hF => ?_) (fun c1 hF => ?_)
  · refine gg_iconst (v := (0 : Int32)) (pc := 16) K dX7_has_16 (by decide) ?_
    cases hF
    exact (hQ _ _ _ rfl).2.1 _ _ rfl rfl rfl dX7_has_17
  · refine gg_iload_n (pc := 4) K 1 dX7_has_4 rfl rfl ?_
    refine gg_aload_n (pc := 5) K 0 dX7_has_5 rfl rfl ?_
    refine gg_get (pc := 6) K 0 0 i_X7 rfl rfl (by decide) q_1_109 rfl dX7_has_6 ?_
    refine gg_icmp_ge (pc := 9) K 16 dX7_has_9 rfl hF (fun c2 hF => ?_) (fun c2 hF => ?_)
    · refine gg_iconst (v := (0 : Int32)) (pc := 16) K dX7_has_16 (by decide) ?_
      cases hF
      exact (hQ _ _ _ rfl).2.1 _ _ rfl rfl rfl dX7_has_17
    · refine gg_iconst (v := (1 : Int32)) (pc := 12) K dX7_has_12 (by decide) ?_
      refine gg_goto (pc := 13) K 17 dX7_has_13 rfl ?_
      cases hF
      exact (hQ _ _ _ rfl).2.1 _ _ rfl rfl rfl dX7_has_17
def F_X7_has (x1 : Int32) (v_t_count : Int32) : Option (Int32) := F_X7_has_0 x1 v_t_count
theorem n_X7_has : yX7_has.cls = "SoundDesk$Tongues" ∧ yX7_has.cls ≠ "java/lang/invoke/MethodHandle" ∧ yX7_has.cls ≠ "java/lang/invoke/VarHandle" ∧ (parseMethodDescriptor yX7_has.desc).map (fun d => d.parameters.length) = some 1 := by decide +kernel
theorem c_X7_has (l : Launch) (E : en_T) (a_t a_t_parent a_t_ownCount a_t_own : Nat) (x1 : Int32) (v_t_count : Int32) {r : Int32}  (hF : F_X7_has x1 v_t_count = some (r)) : ct l yX7_has cX7_has 2 (some .boolean) rm_X7_has E [.ref a_t, .int x1] (W_X7_has E a_t a_t_parent a_t_ownCount a_t_own v_t_count) (some (.int r)) (fun x => x = (W_X7_has E a_t a_t_parent a_t_ownCount a_t_own v_t_count)) := by
  refine ct_of (by decide +kernel) (Nat.le_of_ble_eq_true rfl) (fun B hl hE _ K hQ => ?_)
  subst hl; subst hE
  refine gg_sub (lv' := [(0, .ref a_t), (1, .int x1)]) [0, 1] rfl ?_
  exact w_X7_has_0 K hQ hF
theorem dX7_hasPair_0 : decode cX7_hasPair 0 = .ok (.aload_n 0, 1) := by decide +kernel
theorem dX7_hasPair_1 : decode cX7_hasPair 1 = .ok (.iload_n 1, 1) := by decide +kernel
theorem dX7_hasPair_2 : decode cX7_hasPair 2 = .ok (.invokevirtual 31, 3) := by decide +kernel
theorem dX7_hasPair_5 : decode cX7_hasPair 5 = .ok (.ifCond .eq 23, 3) := by decide +kernel
theorem dX7_hasPair_8 : decode cX7_hasPair 8 = .ok (.iload_n 2, 1) := by decide +kernel
theorem dX7_hasPair_9 : decode cX7_hasPair 9 = .ok (.ifCond .lt 19, 3) := by decide +kernel
theorem dX7_hasPair_12 : decode cX7_hasPair 12 = .ok (.iload_n 2, 1) := by decide +kernel
theorem dX7_hasPair_13 : decode cX7_hasPair 13 = .ok (.aload_n 0, 1) := by decide +kernel
theorem dX7_hasPair_14 : decode cX7_hasPair 14 = .ok (.getfield 17, 3) := by decide +kernel
theorem dX7_hasPair_17 : decode cX7_hasPair 17 = .ok (.iload_n 1, 1) := by decide +kernel
theorem dX7_hasPair_18 : decode cX7_hasPair 18 = .ok (.iaload, 1) := by decide +kernel
theorem dX7_hasPair_19 : decode cX7_hasPair 19 = .ok (.iconst 1, 1) := by decide +kernel
theorem dX7_hasPair_20 : decode cX7_hasPair 20 = .ok (.isub, 1) := by decide +kernel
theorem dX7_hasPair_21 : decode cX7_hasPair 21 = .ok (.if_icmp .ge 7, 3) := by decide +kernel
theorem dX7_hasPair_24 : decode cX7_hasPair 24 = .ok (.iconst 1, 1) := by decide +kernel
theorem dX7_hasPair_25 : decode cX7_hasPair 25 = .ok (.goto 4, 3) := by decide +kernel
theorem dX7_hasPair_28 : decode cX7_hasPair 28 = .ok (.iconst 0, 1) := by decide +kernel
theorem dX7_hasPair_29 : decode cX7_hasPair 29 = .ok (.ireturn, 1) := by decide +kernel
def rm_X7_hasPair : Room := { frames := 1, cells := 0, slots := 0, locals := 21 }
def W_X7_hasPair (E : en_T) (a_t a_t_parent a_t_ownCount a_t_own : Nat) (v_t_count : Int32) (v_t_ownCount : (Nat → Int32)) : va_W := [(a_t, .inr (7, [.int v_t_count, .ref a_t_parent, .ref a_t_ownCount, .ref a_t_own])), (a_t_ownCount, .inl (en_I E, 6, .inl v_t_ownCount))]
def F_X7_hasPair_0  (x1 : Int32) (x2 : Int32) (v_t_count : Int32) (v_t_ownCount : (Nat → Int32)) : Option (Int32) := bn1_ (F_X7_has x1 v_t_count) (fun y1 => if y1 = (0 : Int32) then (some ((0 : Int32))) else (if x2 < (0 : Int32) then (some ((0 : Int32))) else (ck_ x1 6 (if ((v_t_ownCount (Int32.toNatClampNeg x1)) - (1 : Int32)) ≤ x2 then (some ((0 : Int32))) else (some ((1 : Int32)))))))
set_option maxHeartbeats 4000000 in
theorem w_X7_hasPair_0 {B : bu_T} {a_t a_t_parent a_t_ownCount a_t_own : Nat} {v_t_count : Int32} {v_t_ownCount : (Nat → Int32)} {r : Int32}  (K : cx B cX7_hasPair "SoundDesk$Tongues" rm_X7_hasPair 3) (hQ : rt B cX7_hasPair 3 (some .boolean) rm_X7_hasPair (some (.int r)) (fun x => x = (W_X7_hasPair (bu_E B) a_t a_t_parent a_t_ownCount a_t_own v_t_count v_t_ownCount))) {x1 : Int32} {x2 : Int32} (hF : F_X7_hasPair_0  x1 x2 v_t_count v_t_ownCount = some (r)) : gg B 3 0 0 0 [(0, .ref a_t), (1, .int x1), (2, .int x2)] [] (W_X7_hasPair (bu_E B) a_t a_t_parent a_t_ownCount a_t_own v_t_count v_t_ownCount) := by
  unfold F_X7_hasPair_0 at hF
  refine gg_aload_n (pc := 0) K 0 dX7_hasPair_0 rfl rfl ?_
  refine gg_iload_n (pc := 1) K 1 dX7_hasPair_1 rfl rfl ?_
  obtain ⟨y1, hc2, hF⟩ := bn1_some hF
  refine gg_dV (pc := 2) (st' := [.int y1]) (rest := []) (w' := (W_X7_hasPair (bu_E B) a_t a_t_parent a_t_ownCount a_t_own v_t_count v_t_ownCount)) K (c_X7_has (bu_l B) (bu_E B) a_t a_t_parent a_t_ownCount a_t_own x1 v_t_count hc2) ⟨rfl, rfl⟩ q_2_187 q_2_164 q_2_165 q_1_6 q_2_166 n_X7_has ⟨(Nat.le_of_ble_eq_true rfl), (Nat.le_of_ble_eq_true rfl)⟩ (ci := 7) rfl 0 rfl [0] [true, false] rfl rfl rfl rfl rfl rfl (by decide) rfl rfl rfl ⟨Nat.zero_le _, Nat.zero_le _⟩ (Nat.le_of_ble_eq_true rfl) dX7_hasPair_2 ?_
  refine gg_if_eq (pc := 5) K 28 dX7_hasPair_5 rfl hF (fun c3 hF => ?_) (fun c3 hF => ?_)
  · refine gg_iconst (v := (0 : Int32)) (pc := 28) K dX7_hasPair_28 (by decide) ?_
    cases hF
    exact (hQ _ _ _ rfl).2.1 _ _ rfl rfl rfl dX7_hasPair_29
  · refine gg_iload_n (pc := 8) K 2 dX7_hasPair_8 rfl rfl ?_
    refine gg_if_lt (pc := 9) K 28 dX7_hasPair_9 rfl hF (fun c4 hF => ?_) (fun c4 hF => ?_)
    · refine gg_iconst (v := (0 : Int32)) (pc := 28) K dX7_hasPair_28 (by decide) ?_
      cases hF
      exact (hQ _ _ _ rfl).2.1 _ _ rfl rfl rfl dX7_hasPair_29
    · refine gg_iload_n (pc := 12) K 2 dX7_hasPair_12 rfl rfl ?_
      refine gg_aload_n (pc := 13) K 0 dX7_hasPair_13 rfl rfl ?_
      refine gg_get (pc := 14) K 0 2 i_X7 rfl rfl (by decide) q_1_116 rfl dX7_hasPair_14 ?_
      refine gg_iload_n (pc := 17) K 1 dX7_hasPair_17 rfl rfl ?_
      refine gg_iald (pc := 18) K 1 rfl dX7_hasPair_18 hF (fun hF => ?_)
      refine gg_iconst (v := (1 : Int32)) (pc := 19) K dX7_hasPair_19 (by decide) ?_
      refine gg_isub (pc := 20) K dX7_hasPair_20 ?_
      refine gg_icmp_ge (pc := 21) K 28 dX7_hasPair_21 rfl hF (fun c5 hF => ?_) (fun c5 hF => ?_)
      · refine gg_iconst (v := (0 : Int32)) (pc := 28) K dX7_hasPair_28 (by decide) ?_
        cases hF
        exact (hQ _ _ _ rfl).2.1 _ _ rfl rfl rfl dX7_hasPair_29
      · refine gg_iconst (v := (1 : Int32)) (pc := 24) K dX7_hasPair_24 (by decide) ?_
        refine gg_goto (pc := 25) K 29 dX7_hasPair_25 rfl ?_
        cases hF
        exact (hQ _ _ _ rfl).2.1 _ _ rfl rfl rfl dX7_hasPair_29
def F_X7_hasPair (x1 : Int32) (x2 : Int32) (v_t_count : Int32) (v_t_ownCount : (Nat → Int32)) : Option (Int32) := F_X7_hasPair_0 x1 x2 v_t_count v_t_ownCount
theorem n_X7_hasPair : yX7_hasPair.cls = "SoundDesk$Tongues" ∧ yX7_hasPair.cls ≠ "java/lang/invoke/MethodHandle" ∧ yX7_hasPair.cls ≠ "java/lang/invoke/VarHandle" ∧ (parseMethodDescriptor yX7_hasPair.desc).map (fun d => d.parameters.length) = some 2 := by decide +kernel
theorem c_X7_hasPair (l : Launch) (E : en_T) (a_t a_t_parent a_t_ownCount a_t_own : Nat) (x1 : Int32) (x2 : Int32) (v_t_count : Int32) (v_t_ownCount : (Nat → Int32)) {r : Int32}  (hF : F_X7_hasPair x1 x2 v_t_count v_t_ownCount = some (r)) : ct l yX7_hasPair cX7_hasPair 3 (some .boolean) rm_X7_hasPair E [.ref a_t, .int x1, .int x2] (W_X7_hasPair E a_t a_t_parent a_t_ownCount a_t_own v_t_count v_t_ownCount) (some (.int r)) (fun x => x = (W_X7_hasPair E a_t a_t_parent a_t_ownCount a_t_own v_t_count v_t_ownCount)) := by
  refine ct_of (by decide +kernel) (Nat.le_of_ble_eq_true rfl) (fun B hl hE _ K hQ => ?_)
  subst hl; subst hE
  refine gg_sub (lv' := [(0, .ref a_t), (1, .int x1), (2, .int x2)]) [0, 1, 2] rfl ?_
  exact w_X7_hasPair_0 K hQ hF
theorem dX7_add_0 : decode cX7_add 0 = .ok (.aload_n 0, 1) := by decide +kernel
theorem dX7_add_1 : decode cX7_add 1 = .ok (.getfield 7, 3) := by decide +kernel
theorem dX7_add_4 : decode cX7_add 4 = .ok (.istore_n 2, 1) := by decide +kernel
theorem dX7_add_5 : decode cX7_add 5 = .ok (.aload_n 0, 1) := by decide +kernel
theorem dX7_add_6 : decode cX7_add 6 = .ok (.getfield 13, 3) := by decide +kernel
theorem dX7_add_9 : decode cX7_add 9 = .ok (.iload_n 2, 1) := by decide +kernel
theorem dX7_add_10 : decode cX7_add 10 = .ok (.iload_n 1, 1) := by decide +kernel
theorem dX7_add_11 : decode cX7_add 11 = .ok (.iastore, 1) := by decide +kernel
theorem dX7_add_12 : decode cX7_add 12 = .ok (.aload_n 0, 1) := by decide +kernel
theorem dX7_add_13 : decode cX7_add 13 = .ok (.getfield 17, 3) := by decide +kernel
theorem dX7_add_16 : decode cX7_add 16 = .ok (.iload_n 2, 1) := by decide +kernel
theorem dX7_add_17 : decode cX7_add 17 = .ok (.iconst 0, 1) := by decide +kernel
theorem dX7_add_18 : decode cX7_add 18 = .ok (.iastore, 1) := by decide +kernel
theorem dX7_add_19 : decode cX7_add 19 = .ok (.aload_n 0, 1) := by decide +kernel
theorem dX7_add_20 : decode cX7_add 20 = .ok (.dup, 1) := by decide +kernel
theorem dX7_add_21 : decode cX7_add 21 = .ok (.getfield 7, 3) := by decide +kernel
theorem dX7_add_24 : decode cX7_add 24 = .ok (.iconst 1, 1) := by decide +kernel
theorem dX7_add_25 : decode cX7_add 25 = .ok (.iadd, 1) := by decide +kernel
theorem dX7_add_26 : decode cX7_add 26 = .ok (.putfield 7, 3) := by decide +kernel
theorem dX7_add_29 : decode cX7_add 29 = .ok (.iload_n 2, 1) := by decide +kernel
theorem dX7_add_30 : decode cX7_add 30 = .ok (.ireturn, 1) := by decide +kernel
def rm_X7_add : Room := { frames := 0, cells := 0, slots := 0, locals := 0 }
def W_X7_add (E : en_T) (a_t a_t_parent a_t_ownCount a_t_own : Nat) (v_t_count : Int32) (v_t_ownCount : (Nat → Int32)) (v_t_parent : (Nat → Int32)) : va_W := [(a_t, .inr (7, [.int v_t_count, .ref a_t_parent, .ref a_t_ownCount, .ref a_t_own])), (a_t_ownCount, .inl (en_I E, 6, .inl v_t_ownCount)), (a_t_parent, .inl (en_I E, 6, .inl v_t_parent))]
def F_X7_add_0  (x1 : Int32) (v_t_count : Int32) (v_t_ownCount : (Nat → Int32)) (v_t_parent : (Nat → Int32)) : Option (Int32 × Int32 × (Nat → Int32) × (Nat → Int32)) := ck_ v_t_count 6 (lt_ (upd v_t_parent (Int32.toNatClampNeg v_t_count) x1) (fun f1 => ck_ v_t_count 6 (lt_ (upd v_t_ownCount (Int32.toNatClampNeg v_t_count) (0 : Int32)) (fun f2 => lt_ (v_t_count + (1 : Int32)) (fun y3 => some (v_t_count, y3, f2, f1))))))
set_option maxHeartbeats 4000000 in
theorem w_X7_add_0 {B : bu_T} {a_t a_t_parent a_t_ownCount a_t_own : Nat} {v_t_count : Int32} {v_t_ownCount : (Nat → Int32)} {v_t_parent : (Nat → Int32)} {r : Int32} {o_t_count : Int32} {o_t_ownCount : (Nat → Int32)} {o_t_parent : (Nat → Int32)} (K : cx B cX7_add "SoundDesk$Tongues" rm_X7_add 3) (hQ : rt B cX7_add 3 (some .int) rm_X7_add (some (.int r)) (fun x => x = (W_X7_add (bu_E B) a_t a_t_parent a_t_ownCount a_t_own o_t_count o_t_ownCount o_t_parent))) {x1 : Int32} (hF : F_X7_add_0  x1 v_t_count v_t_ownCount v_t_parent = some (r, o_t_count, o_t_ownCount, o_t_parent)) : gg B 3 0 0 0 [(0, .ref a_t), (1, .int x1)] [] (W_X7_add (bu_E B) a_t a_t_parent a_t_ownCount a_t_own v_t_count v_t_ownCount v_t_parent) := by
  unfold F_X7_add_0 at hF
  refine gg_aload_n (pc := 0) K 0 dX7_add_0 rfl rfl ?_
  refine gg_get (pc := 1) K 0 0 i_X7 rfl rfl (by decide) q_1_109 rfl dX7_add_1 ?_
  refine gg_istore_n (pc := 4) (lv' := [(0, .ref a_t), (1, .int x1), (2, .int v_t_count)]) K [1, 2, 0] dX7_add_4 rfl (by decide) rfl ?_
  refine gg_aload_n (pc := 5) K 0 dX7_add_5 rfl rfl ?_
  refine gg_get (pc := 6) K 0 1 i_X7 rfl rfl (by decide) q_1_113 rfl dX7_add_6 ?_
  refine gg_iload_n (pc := 9) K 2 dX7_add_9 rfl rfl ?_
  refine gg_iload_n (pc := 10) K 1 dX7_add_10 rfl rfl ?_
  refine gg_iast (pc := 11) (wf := fun zz => (W_X7_add (bu_E B) a_t a_t_parent a_t_ownCount a_t_own v_t_count v_t_ownCount zz)) K 2 rfl dX7_add_11 hF (fun _ => rfl) (fun f1 ef1 hF => ?_)
  refine gg_aload_n (pc := 12) K 0 dX7_add_12 rfl rfl ?_
  refine gg_get (pc := 13) K 0 2 i_X7 rfl rfl (by decide) q_1_116 rfl dX7_add_13 ?_
  refine gg_iload_n (pc := 16) K 2 dX7_add_16 rfl rfl ?_
  refine gg_iconst (v := (0 : Int32)) (pc := 17) K dX7_add_17 (by decide) ?_
  refine gg_iast (pc := 18) (wf := fun zz => (W_X7_add (bu_E B) a_t a_t_parent a_t_ownCount a_t_own v_t_count zz f1)) K 1 rfl dX7_add_18 hF (fun _ => rfl) (fun f2 ef2 hF => ?_)
  refine gg_aload_n (pc := 19) K 0 dX7_add_19 rfl rfl ?_
  refine gg_dup (pc := 20) K dX7_add_20 rfl ?_
  refine gg_get (pc := 21) K 0 0 i_X7 rfl rfl (by decide) q_1_109 rfl dX7_add_21 ?_
  refine gg_iconst (v := (1 : Int32)) (pc := 24) K dX7_add_24 (by decide) ?_
  refine gg_iadd (pc := 25) K dX7_add_25 ?_
  refine gg_puti (pc := 26) (wf := fun zz => (W_X7_add (bu_E B) a_t a_t_parent a_t_ownCount a_t_own zz f2 f1)) K 0 0 i_X7 tyX7_ok nmX7 rfl rfl (by decide) q_1_109 rfl (by decide +kernel) (Nat.le_of_ble_eq_true rfl) dX7_add_26 hF (fun _ => rfl) (fun y3 ey3 hF => ?_)
  refine gg_iload_n (pc := 29) K 2 dX7_add_29 rfl rfl ?_
  cases hF
  exact (hQ _ _ _ rfl).2.1 _ _ rfl rfl rfl dX7_add_30
def F_X7_add (x1 : Int32) (v_t_count : Int32) (v_t_ownCount : (Nat → Int32)) (v_t_parent : (Nat → Int32)) : Option (Int32 × Int32 × (Nat → Int32) × (Nat → Int32)) := F_X7_add_0 x1 v_t_count v_t_ownCount v_t_parent
theorem n_X7_add : yX7_add.cls = "SoundDesk$Tongues" ∧ yX7_add.cls ≠ "java/lang/invoke/MethodHandle" ∧ yX7_add.cls ≠ "java/lang/invoke/VarHandle" ∧ (parseMethodDescriptor yX7_add.desc).map (fun d => d.parameters.length) = some 1 := by decide +kernel
theorem c_X7_add (l : Launch) (E : en_T) (a_t a_t_parent a_t_ownCount a_t_own : Nat) (x1 : Int32) (v_t_count : Int32) (v_t_ownCount : (Nat → Int32)) (v_t_parent : (Nat → Int32)) {r : Int32} {o_t_count : Int32} {o_t_ownCount : (Nat → Int32)} {o_t_parent : (Nat → Int32)} (hF : F_X7_add x1 v_t_count v_t_ownCount v_t_parent = some (r, o_t_count, o_t_ownCount, o_t_parent)) : ct l yX7_add cX7_add 3 (some .int) rm_X7_add E [.ref a_t, .int x1] (W_X7_add E a_t a_t_parent a_t_ownCount a_t_own v_t_count v_t_ownCount v_t_parent) (some (.int r)) (fun x => x = (W_X7_add E a_t a_t_parent a_t_ownCount a_t_own o_t_count o_t_ownCount o_t_parent)) := by
  refine ct_of (by decide +kernel) (Nat.le_of_ble_eq_true rfl) (fun B hl hE _ K hQ => ?_)
  subst hl; subst hE
  refine gg_sub (lv' := [(0, .ref a_t), (1, .int x1)]) [0, 1] rfl ?_
  exact w_X7_add_0 K hQ hF
theorem dX7_append_0 : decode cX7_append 0 = .ok (.aload_n 0, 1) := by decide +kernel
theorem dX7_append_1 : decode cX7_append 1 = .ok (.getfield 22, 3) := by decide +kernel
theorem dX7_append_4 : decode cX7_append 4 = .ok (.iload_n 1, 1) := by decide +kernel
theorem dX7_append_5 : decode cX7_append 5 = .ok (.aaload, 1) := by decide +kernel
theorem dX7_append_6 : decode cX7_append 6 = .ok (.aload_n 0, 1) := by decide +kernel
theorem dX7_append_7 : decode cX7_append 7 = .ok (.getfield 17, 3) := by decide +kernel
theorem dX7_append_10 : decode cX7_append 10 = .ok (.iload_n 1, 1) := by decide +kernel
theorem dX7_append_11 : decode cX7_append 11 = .ok (.iaload, 1) := by decide +kernel
theorem dX7_append_12 : decode cX7_append 12 = .ok (.iload_n 2, 1) := by decide +kernel
theorem dX7_append_13 : decode cX7_append 13 = .ok (.iastore, 1) := by decide +kernel
theorem dX7_append_14 : decode cX7_append 14 = .ok (.aload_n 0, 1) := by decide +kernel
theorem dX7_append_15 : decode cX7_append 15 = .ok (.getfield 17, 3) := by decide +kernel
theorem dX7_append_18 : decode cX7_append 18 = .ok (.iload_n 1, 1) := by decide +kernel
theorem dX7_append_19 : decode cX7_append 19 = .ok (.dup2, 1) := by decide +kernel
theorem dX7_append_20 : decode cX7_append 20 = .ok (.iaload, 1) := by decide +kernel
theorem dX7_append_21 : decode cX7_append 21 = .ok (.iconst 1, 1) := by decide +kernel
theorem dX7_append_22 : decode cX7_append 22 = .ok (.iadd, 1) := by decide +kernel
theorem dX7_append_23 : decode cX7_append 23 = .ok (.iastore, 1) := by decide +kernel
theorem dX7_append_24 : decode cX7_append 24 = .ok (.aload_n 0, 1) := by decide +kernel
theorem dX7_append_25 : decode cX7_append 25 = .ok (.getfield 17, 3) := by decide +kernel
theorem dX7_append_28 : decode cX7_append 28 = .ok (.iload_n 1, 1) := by decide +kernel
theorem dX7_append_29 : decode cX7_append 29 = .ok (.iaload, 1) := by decide +kernel
theorem dX7_append_30 : decode cX7_append 30 = .ok (.ireturn, 1) := by decide +kernel
def rm_X7_append : Room := { frames := 0, cells := 0, slots := 0, locals := 0 }
def W_X7_append (E : en_T) (a_t a_t_parent a_t_ownCount a_t_own : Nat) (r_t_own : Nat → Nat) (v_t_count : Int32) (v_t_own : (Nat → Nat → Int32)) (v_t_ownCount : (Nat → Int32)) : va_W := [(a_t, .inr (7, [.int v_t_count, .ref a_t_parent, .ref a_t_ownCount, .ref a_t_own])), (a_t_own, .inl (en_II E, 6, .inr (.inr (.inr (.inr (go_ 6 r_t_own)))))), (r_t_own 0, .inl (en_I E, 6, .inl (v_t_own 0))), (r_t_own 1, .inl (en_I E, 6, .inl (v_t_own 1))), (r_t_own 2, .inl (en_I E, 6, .inl (v_t_own 2))), (r_t_own 3, .inl (en_I E, 6, .inl (v_t_own 3))), (r_t_own 4, .inl (en_I E, 6, .inl (v_t_own 4))), (r_t_own 5, .inl (en_I E, 6, .inl (v_t_own 5))), (a_t_ownCount, .inl (en_I E, 6, .inl v_t_ownCount))]
def F_X7_append_0  (x1 : Int32) (x2 : Int32) (v_t_own : (Nat → Nat → Int32)) (v_t_ownCount : (Nat → Int32)) : Option (Int32 × (Nat → Nat → Int32) × (Nat → Int32)) := ck_ x1 6 (ck_ x1 6 (ck_ (v_t_ownCount (Int32.toNatClampNeg x1)) 6 (lt_ (ur_ v_t_own (Int32.toNatClampNeg x1) (upd (v_t_own (Int32.toNatClampNeg x1)) (Int32.toNatClampNeg (v_t_ownCount (Int32.toNatClampNeg x1))) x2)) (fun f2 => ck_ x1 6 (ck_ x1 6 (lt_ (upd v_t_ownCount (Int32.toNatClampNeg x1) ((v_t_ownCount (Int32.toNatClampNeg x1)) + (1 : Int32))) (fun f3 => ck_ x1 6 (some ((f3 (Int32.toNatClampNeg x1)), f2, f3)))))))))
set_option maxHeartbeats 4000000 in
theorem w_X7_append_0 {B : bu_T} {a_t a_t_parent a_t_ownCount a_t_own : Nat} {r_t_own : Nat → Nat} {v_t_count : Int32} {v_t_own : (Nat → Nat → Int32)} {v_t_ownCount : (Nat → Int32)} {r : Int32} {o_t_own : (Nat → Nat → Int32)} {o_t_ownCount : (Nat → Int32)} (K : cx B cX7_append "SoundDesk$Tongues" rm_X7_append 3) (hQ : rt B cX7_append 3 (some .int) rm_X7_append (some (.int r)) (fun x => x = (W_X7_append (bu_E B) a_t a_t_parent a_t_ownCount a_t_own r_t_own v_t_count o_t_own o_t_ownCount))) {x1 : Int32} {x2 : Int32} (hF : F_X7_append_0  x1 x2 v_t_own v_t_ownCount = some (r, o_t_own, o_t_ownCount)) : gg B 3 0 0 0 [(0, .ref a_t), (1, .int x1), (2, .int x2)] [] (W_X7_append (bu_E B) a_t a_t_parent a_t_ownCount a_t_own r_t_own v_t_count v_t_own v_t_ownCount) := by
  unfold F_X7_append_0 at hF
  refine gg_aload_n (pc := 0) K 0 dX7_append_0 rfl rfl ?_
  refine gg_get (pc := 1) K 0 3 i_X7 rfl rfl (by decide) q_1_120 rfl dX7_append_1 ?_
  refine gg_iload_n (pc := 4) K 1 dX7_append_4 rfl rfl ?_
  refine gg_aaldI (pc := 5) K 1 rfl dX7_append_5 hF (fun h1 hF => ?_)
  refine gg_aload_n (pc := 6) K 0 dX7_append_6 rfl rfl ?_
  refine gg_get (pc := 7) K 0 2 i_X7 rfl rfl (by decide) q_1_116 rfl dX7_append_7 ?_
  refine gg_iload_n (pc := 10) K 1 dX7_append_10 rfl rfl ?_
  refine gg_iald (pc := 11) K 8 rfl dX7_append_11 hF (fun hF => ?_)
  refine gg_iload_n (pc := 12) K 2 dX7_append_12 rfl rfl ?_
  refine gg_rist (pc := 13) (wf := fun zz => (W_X7_append (bu_E B) a_t a_t_parent a_t_ownCount a_t_own r_t_own v_t_count zz v_t_ownCount)) K 2 (lt6_ rfl rfl rfl rfl rfl rfl) h1 dX7_append_13 hF (lt6_ (fun _ => rfl) (fun _ => rfl) (fun _ => rfl) (fun _ => rfl) (fun _ => rfl) (fun _ => rfl)) (fun f2 ef2 hF => ?_)
  refine gg_aload_n (pc := 14) K 0 dX7_append_14 rfl rfl ?_
  refine gg_get (pc := 15) K 0 2 i_X7 rfl rfl (by decide) q_1_116 rfl dX7_append_15 ?_
  refine gg_iload_n (pc := 18) K 1 dX7_append_18 rfl rfl ?_
  refine gg_dup2 (pc := 19) K dX7_append_19 rfl rfl ?_
  refine gg_iald (pc := 20) K 8 rfl dX7_append_20 hF (fun hF => ?_)
  refine gg_iconst (v := (1 : Int32)) (pc := 21) K dX7_append_21 (by decide) ?_
  refine gg_iadd (pc := 22) K dX7_append_22 ?_
  refine gg_iast (pc := 23) (wf := fun zz => (W_X7_append (bu_E B) a_t a_t_parent a_t_ownCount a_t_own r_t_own v_t_count f2 zz)) K 8 rfl dX7_append_23 hF (fun _ => rfl) (fun f3 ef3 hF => ?_)
  refine gg_aload_n (pc := 24) K 0 dX7_append_24 rfl rfl ?_
  refine gg_get (pc := 25) K 0 2 i_X7 rfl rfl (by decide) q_1_116 rfl dX7_append_25 ?_
  refine gg_iload_n (pc := 28) K 1 dX7_append_28 rfl rfl ?_
  refine gg_iald (pc := 29) K 8 rfl dX7_append_29 hF (fun hF => ?_)
  cases hF
  exact (hQ _ _ _ rfl).2.1 _ _ rfl rfl rfl dX7_append_30
def F_X7_append (x1 : Int32) (x2 : Int32) (v_t_own : (Nat → Nat → Int32)) (v_t_ownCount : (Nat → Int32)) : Option (Int32 × (Nat → Nat → Int32) × (Nat → Int32)) := F_X7_append_0 x1 x2 v_t_own v_t_ownCount
theorem n_X7_append : yX7_append.cls = "SoundDesk$Tongues" ∧ yX7_append.cls ≠ "java/lang/invoke/MethodHandle" ∧ yX7_append.cls ≠ "java/lang/invoke/VarHandle" ∧ (parseMethodDescriptor yX7_append.desc).map (fun d => d.parameters.length) = some 2 := by decide +kernel
theorem c_X7_append (l : Launch) (E : en_T) (a_t a_t_parent a_t_ownCount a_t_own : Nat) (r_t_own : Nat → Nat) (x1 : Int32) (x2 : Int32) (v_t_count : Int32) (v_t_own : (Nat → Nat → Int32)) (v_t_ownCount : (Nat → Int32)) {r : Int32} {o_t_own : (Nat → Nat → Int32)} {o_t_ownCount : (Nat → Int32)} (hF : F_X7_append x1 x2 v_t_own v_t_ownCount = some (r, o_t_own, o_t_ownCount)) : ct l yX7_append cX7_append 3 (some .int) rm_X7_append E [.ref a_t, .int x1, .int x2] (W_X7_append E a_t a_t_parent a_t_ownCount a_t_own r_t_own v_t_count v_t_own v_t_ownCount) (some (.int r)) (fun x => x = (W_X7_append E a_t a_t_parent a_t_ownCount a_t_own r_t_own v_t_count o_t_own o_t_ownCount)) := by
  refine ct_of (by decide +kernel) (Nat.le_of_ble_eq_true rfl) (fun B hl hE _ K hQ => ?_)
  subst hl; subst hE
  refine gg_sub (lv' := [(0, .ref a_t), (1, .int x1), (2, .int x2)]) [0, 1, 2] rfl ?_
  exact w_X7_append_0 K hQ hF
theorem dX7_exchange_0 : decode cX7_exchange 0 = .ok (.aload_n 0, 1) := by decide +kernel
theorem dX7_exchange_1 : decode cX7_exchange 1 = .ok (.getfield 22, 3) := by decide +kernel
theorem dX7_exchange_4 : decode cX7_exchange 4 = .ok (.iload_n 1, 1) := by decide +kernel
theorem dX7_exchange_5 : decode cX7_exchange 5 = .ok (.aaload, 1) := by decide +kernel
theorem dX7_exchange_6 : decode cX7_exchange 6 = .ok (.iload_n 2, 1) := by decide +kernel
theorem dX7_exchange_7 : decode cX7_exchange 7 = .ok (.iaload, 1) := by decide +kernel
theorem dX7_exchange_8 : decode cX7_exchange 8 = .ok (.istore_n 3, 1) := by decide +kernel
theorem dX7_exchange_9 : decode cX7_exchange 9 = .ok (.aload_n 0, 1) := by decide +kernel
theorem dX7_exchange_10 : decode cX7_exchange 10 = .ok (.getfield 22, 3) := by decide +kernel
theorem dX7_exchange_13 : decode cX7_exchange 13 = .ok (.iload_n 1, 1) := by decide +kernel
theorem dX7_exchange_14 : decode cX7_exchange 14 = .ok (.aaload, 1) := by decide +kernel
theorem dX7_exchange_15 : decode cX7_exchange 15 = .ok (.iload_n 2, 1) := by decide +kernel
theorem dX7_exchange_16 : decode cX7_exchange 16 = .ok (.aload_n 0, 1) := by decide +kernel
theorem dX7_exchange_17 : decode cX7_exchange 17 = .ok (.getfield 22, 3) := by decide +kernel
theorem dX7_exchange_20 : decode cX7_exchange 20 = .ok (.iload_n 1, 1) := by decide +kernel
theorem dX7_exchange_21 : decode cX7_exchange 21 = .ok (.aaload, 1) := by decide +kernel
theorem dX7_exchange_22 : decode cX7_exchange 22 = .ok (.iload_n 2, 1) := by decide +kernel
theorem dX7_exchange_23 : decode cX7_exchange 23 = .ok (.iconst 1, 1) := by decide +kernel
theorem dX7_exchange_24 : decode cX7_exchange 24 = .ok (.iadd, 1) := by decide +kernel
theorem dX7_exchange_25 : decode cX7_exchange 25 = .ok (.iaload, 1) := by decide +kernel
theorem dX7_exchange_26 : decode cX7_exchange 26 = .ok (.iastore, 1) := by decide +kernel
theorem dX7_exchange_27 : decode cX7_exchange 27 = .ok (.aload_n 0, 1) := by decide +kernel
theorem dX7_exchange_28 : decode cX7_exchange 28 = .ok (.getfield 22, 3) := by decide +kernel
theorem dX7_exchange_31 : decode cX7_exchange 31 = .ok (.iload_n 1, 1) := by decide +kernel
theorem dX7_exchange_32 : decode cX7_exchange 32 = .ok (.aaload, 1) := by decide +kernel
theorem dX7_exchange_33 : decode cX7_exchange 33 = .ok (.iload_n 2, 1) := by decide +kernel
theorem dX7_exchange_34 : decode cX7_exchange 34 = .ok (.iconst 1, 1) := by decide +kernel
theorem dX7_exchange_35 : decode cX7_exchange 35 = .ok (.iadd, 1) := by decide +kernel
theorem dX7_exchange_36 : decode cX7_exchange 36 = .ok (.iload_n 3, 1) := by decide +kernel
theorem dX7_exchange_37 : decode cX7_exchange 37 = .ok (.iastore, 1) := by decide +kernel
theorem dX7_exchange_38 : decode cX7_exchange 38 = .ok (.return_, 1) := by decide +kernel
def rm_X7_exchange : Room := { frames := 0, cells := 0, slots := 0, locals := 0 }
def W_X7_exchange (E : en_T) (a_t a_t_parent a_t_ownCount a_t_own : Nat) (r_t_own : Nat → Nat) (v_t_count : Int32) (v_t_own : (Nat → Nat → Int32)) : va_W := [(a_t, .inr (7, [.int v_t_count, .ref a_t_parent, .ref a_t_ownCount, .ref a_t_own])), (a_t_own, .inl (en_II E, 6, .inr (.inr (.inr (.inr (go_ 6 r_t_own)))))), (r_t_own 0, .inl (en_I E, 6, .inl (v_t_own 0))), (r_t_own 1, .inl (en_I E, 6, .inl (v_t_own 1))), (r_t_own 2, .inl (en_I E, 6, .inl (v_t_own 2))), (r_t_own 3, .inl (en_I E, 6, .inl (v_t_own 3))), (r_t_own 4, .inl (en_I E, 6, .inl (v_t_own 4))), (r_t_own 5, .inl (en_I E, 6, .inl (v_t_own 5)))]
def F_X7_exchange_0  (x1 : Int32) (x2 : Int32) (v_t_own : (Nat → Nat → Int32)) : Option ((Nat → Nat → Int32)) := ck_ x1 6 (ck_ x2 6 (lt_ (v_t_own (Int32.toNatClampNeg x1) (Int32.toNatClampNeg x2)) (fun y2 => ck_ x1 6 (ck_ x1 6 (ck_ (x2 + (1 : Int32)) 6 (ck_ x2 6 (lt_ (ur_ v_t_own (Int32.toNatClampNeg x1) (upd (v_t_own (Int32.toNatClampNeg x1)) (Int32.toNatClampNeg x2) (v_t_own (Int32.toNatClampNeg x1) (Int32.toNatClampNeg (x2 + (1 : Int32)))))) (fun f5 => ck_ x1 6 (ck_ (x2 + (1 : Int32)) 6 (lt_ (ur_ f5 (Int32.toNatClampNeg x1) (upd (f5 (Int32.toNatClampNeg x1)) (Int32.toNatClampNeg (x2 + (1 : Int32))) y2)) (fun f7 => some (f7))))))))))))
set_option maxHeartbeats 4000000 in
theorem w_X7_exchange_0 {B : bu_T} {a_t a_t_parent a_t_ownCount a_t_own : Nat} {r_t_own : Nat → Nat} {v_t_count : Int32} {v_t_own : (Nat → Nat → Int32)} {o_t_own : (Nat → Nat → Int32)} (K : cx B cX7_exchange "SoundDesk$Tongues" rm_X7_exchange 4) (hQ : rt B cX7_exchange 4 none rm_X7_exchange none (fun x => x = (W_X7_exchange (bu_E B) a_t a_t_parent a_t_ownCount a_t_own r_t_own v_t_count o_t_own))) {x1 : Int32} {x2 : Int32} (hF : F_X7_exchange_0  x1 x2 v_t_own = some (o_t_own)) : gg B 4 0 0 0 [(0, .ref a_t), (1, .int x1), (2, .int x2)] [] (W_X7_exchange (bu_E B) a_t a_t_parent a_t_ownCount a_t_own r_t_own v_t_count v_t_own) := by
  unfold F_X7_exchange_0 at hF
  refine gg_aload_n (pc := 0) K 0 dX7_exchange_0 rfl rfl ?_
  refine gg_get (pc := 1) K 0 3 i_X7 rfl rfl (by decide) q_1_120 rfl dX7_exchange_1 ?_
  refine gg_iload_n (pc := 4) K 1 dX7_exchange_4 rfl rfl ?_
  refine gg_aaldI (pc := 5) K 1 rfl dX7_exchange_5 hF (fun h1 hF => ?_)
  refine gg_iload_n (pc := 6) K 2 dX7_exchange_6 rfl rfl ?_
  refine gg_rild (pc := 7) K 2 (lt6_ rfl rfl rfl rfl rfl rfl) h1 dX7_exchange_7 hF (fun hF => ?_)
  refine gg_topi hF (fun y2 ey2 hF => ?_)
  refine gg_istore_n (pc := 8) (lv' := [(0, .ref a_t), (1, .int x1), (2, .int x2), (3, .int y2)]) K [1, 2, 3, 0] dX7_exchange_8 rfl (by decide) rfl ?_
  refine gg_aload_n (pc := 9) K 0 dX7_exchange_9 rfl rfl ?_
  refine gg_get (pc := 10) K 0 3 i_X7 rfl rfl (by decide) q_1_120 rfl dX7_exchange_10 ?_
  refine gg_iload_n (pc := 13) K 1 dX7_exchange_13 rfl rfl ?_
  refine gg_aaldI (pc := 14) K 1 rfl dX7_exchange_14 hF (fun h3 hF => ?_)
  refine gg_iload_n (pc := 15) K 2 dX7_exchange_15 rfl rfl ?_
  refine gg_aload_n (pc := 16) K 0 dX7_exchange_16 rfl rfl ?_
  refine gg_get (pc := 17) K 0 3 i_X7 rfl rfl (by decide) q_1_120 rfl dX7_exchange_17 ?_
  refine gg_iload_n (pc := 20) K 1 dX7_exchange_20 rfl rfl ?_
  refine gg_aaldI (pc := 21) K 1 rfl dX7_exchange_21 hF (fun h4 hF => ?_)
  refine gg_iload_n (pc := 22) K 2 dX7_exchange_22 rfl rfl ?_
  refine gg_iconst (v := (1 : Int32)) (pc := 23) K dX7_exchange_23 (by decide) ?_
  refine gg_iadd (pc := 24) K dX7_exchange_24 ?_
  refine gg_rild (pc := 25) K 2 (lt6_ rfl rfl rfl rfl rfl rfl) h4 dX7_exchange_25 hF (fun hF => ?_)
  refine gg_rist (pc := 26) (wf := fun zz => (W_X7_exchange (bu_E B) a_t a_t_parent a_t_ownCount a_t_own r_t_own v_t_count zz)) K 2 (lt6_ rfl rfl rfl rfl rfl rfl) h3 dX7_exchange_26 hF (lt6_ (fun _ => rfl) (fun _ => rfl) (fun _ => rfl) (fun _ => rfl) (fun _ => rfl) (fun _ => rfl)) (fun f5 ef5 hF => ?_)
  refine gg_aload_n (pc := 27) K 0 dX7_exchange_27 rfl rfl ?_
  refine gg_get (pc := 28) K 0 3 i_X7 rfl rfl (by decide) q_1_120 rfl dX7_exchange_28 ?_
  refine gg_iload_n (pc := 31) K 1 dX7_exchange_31 rfl rfl ?_
  refine gg_aaldI (pc := 32) K 1 rfl dX7_exchange_32 hF (fun h6 hF => ?_)
  refine gg_iload_n (pc := 33) K 2 dX7_exchange_33 rfl rfl ?_
  refine gg_iconst (v := (1 : Int32)) (pc := 34) K dX7_exchange_34 (by decide) ?_
  refine gg_iadd (pc := 35) K dX7_exchange_35 ?_
  refine gg_iload_n (pc := 36) K 3 dX7_exchange_36 rfl rfl ?_
  refine gg_rist (pc := 37) (wf := fun zz => (W_X7_exchange (bu_E B) a_t a_t_parent a_t_ownCount a_t_own r_t_own v_t_count zz)) K 2 (lt6_ rfl rfl rfl rfl rfl rfl) h6 dX7_exchange_37 hF (lt6_ (fun _ => rfl) (fun _ => rfl) (fun _ => rfl) (fun _ => rfl) (fun _ => rfl) (fun _ => rfl)) (fun f7 ef7 hF => ?_)
  cases hF
  exact (hQ _ _ _ rfl).1 rfl rfl dX7_exchange_38
def F_X7_exchange (x1 : Int32) (x2 : Int32) (v_t_own : (Nat → Nat → Int32)) : Option ((Nat → Nat → Int32)) := F_X7_exchange_0 x1 x2 v_t_own
theorem n_X7_exchange : yX7_exchange.cls = "SoundDesk$Tongues" ∧ yX7_exchange.cls ≠ "java/lang/invoke/MethodHandle" ∧ yX7_exchange.cls ≠ "java/lang/invoke/VarHandle" ∧ (parseMethodDescriptor yX7_exchange.desc).map (fun d => d.parameters.length) = some 2 := by decide +kernel
theorem c_X7_exchange (l : Launch) (E : en_T) (a_t a_t_parent a_t_ownCount a_t_own : Nat) (r_t_own : Nat → Nat) (x1 : Int32) (x2 : Int32) (v_t_count : Int32) (v_t_own : (Nat → Nat → Int32)) {o_t_own : (Nat → Nat → Int32)} (hF : F_X7_exchange x1 x2 v_t_own = some (o_t_own)) : ct l yX7_exchange cX7_exchange 4 none rm_X7_exchange E [.ref a_t, .int x1, .int x2] (W_X7_exchange E a_t a_t_parent a_t_ownCount a_t_own r_t_own v_t_count v_t_own) none (fun x => x = (W_X7_exchange E a_t a_t_parent a_t_ownCount a_t_own r_t_own v_t_count o_t_own)) := by
  refine ct_of (by decide +kernel) (Nat.le_of_ble_eq_true rfl) (fun B hl hE _ K hQ => ?_)
  subst hl; subst hE
  refine gg_sub (lv' := [(0, .ref a_t), (1, .int x1), (2, .int x2)]) [0, 1, 2] rfl ?_
  exact w_X7_exchange_0 K hQ hF
