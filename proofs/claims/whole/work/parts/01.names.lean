-- ===== PART A: goes FIRST, ahead of the names: the tables' words, and 'selects' of the private methods out of them =====
/-- a private method of a class that the tables say can be made, by its rows of tables_1 -/
def lw_okq (q : MethodName × Nat) : Prop := (q.1.cls ≠ "java/lang/invoke/MethodHandle" ∧ q.1.cls ≠ "java/lang/invoke/VarHandle") ∧ Cond.instantiable q.1.cls q.2 ∈ tables_1 ∧ Cond.privateMethod q.1 ∈ tables_1 ∧ Cond.instanceMethod q.1 ∈ tables_1
theorem lw_p0 : lw_okq (⟨"SoundDesk", "found", "(I)I"⟩, 7) := ⟨⟨by decide +kernel, by decide +kernel⟩, List.mem_of_getElem? (i := 18) (by decide +kernel), List.mem_of_getElem? (i := 315) (by decide +kernel), List.mem_of_getElem? (i := 316) (by decide +kernel)⟩
theorem lw_p1 : lw_okq (⟨"SoundDesk$Laws", "fittingBits", "(ILSoundDesk$Sounds;)I"⟩, 9) := ⟨⟨by decide +kernel, by decide +kernel⟩, List.mem_of_getElem? (i := 64) (by decide +kernel), List.mem_of_getElem? (i := 327) (by decide +kernel), List.mem_of_getElem? (i := 328) (by decide +kernel)⟩
theorem lw_p2 : lw_okq (⟨"SoundDesk$Laws", "sweep", "(IJII)J"⟩, 9) := ⟨⟨by decide +kernel, by decide +kernel⟩, List.mem_of_getElem? (i := 64) (by decide +kernel), List.mem_of_getElem? (i := 489) (by decide +kernel), List.mem_of_getElem? (i := 490) (by decide +kernel)⟩
theorem lw_p3 : lw_okq (⟨"SoundDesk$Laws", "addChanged", "(IJI)J"⟩, 9) := ⟨⟨by decide +kernel, by decide +kernel⟩, List.mem_of_getElem? (i := 64) (by decide +kernel), List.mem_of_getElem? (i := 501) (by decide +kernel), List.mem_of_getElem? (i := 502) (by decide +kernel)⟩
theorem lw_p4 : lw_okq (⟨"SoundDesk", "shown", "(J)I"⟩, 7) := ⟨⟨by decide +kernel, by decide +kernel⟩, List.mem_of_getElem? (i := 18) (by decide +kernel), List.mem_of_getElem? (i := 520) (by decide +kernel), List.mem_of_getElem? (i := 521) (by decide +kernel)⟩
theorem lw_p5 : lw_okq (⟨"SoundDesk$Finder", "showFirst", "(JI)V"⟩, 10) := ⟨⟨by decide +kernel, by decide +kernel⟩, List.mem_of_getElem? (i := 26) (by decide +kernel), List.mem_of_getElem? (i := 555) (by decide +kernel), List.mem_of_getElem? (i := 556) (by decide +kernel)⟩
theorem lw_p6 : lw_okq (⟨"SoundDesk$Finder", "leadByAll", "(J)V"⟩, 10) := ⟨⟨by decide +kernel, by decide +kernel⟩, List.mem_of_getElem? (i := 26) (by decide +kernel), List.mem_of_getElem? (i := 626) (by decide +kernel), List.mem_of_getElem? (i := 627) (by decide +kernel)⟩
theorem lw_p7 : lw_okq (⟨"SoundDesk$Finder", "noteStandingLaws", "(II)V"⟩, 10) := ⟨⟨by decide +kernel, by decide +kernel⟩, List.mem_of_getElem? (i := 26) (by decide +kernel), List.mem_of_getElem? (i := 677) (by decide +kernel), List.mem_of_getElem? (i := 678) (by decide +kernel)⟩
theorem lw_p8 : lw_okq (⟨"SoundDesk$Finder", "seat", "(II[I)V"⟩, 10) := ⟨⟨by decide +kernel, by decide +kernel⟩, List.mem_of_getElem? (i := 26) (by decide +kernel), List.mem_of_getElem? (i := 681) (by decide +kernel), List.mem_of_getElem? (i := 682) (by decide +kernel)⟩
theorem lw_p9 : lw_okq (⟨"SoundDesk$Finder", "nextSeats", "(I)Z"⟩, 10) := ⟨⟨by decide +kernel, by decide +kernel⟩, List.mem_of_getElem? (i := 26) (by decide +kernel), List.mem_of_getElem? (i := 687) (by decide +kernel), List.mem_of_getElem? (i := 688) (by decide +kernel)⟩
theorem lw_p10 : lw_okq (⟨"SoundDesk$Finder", "exchangeSeats", "(II)V"⟩, 10) := ⟨⟨by decide +kernel, by decide +kernel⟩, List.mem_of_getElem? (i := 26) (by decide +kernel), List.mem_of_getElem? (i := 691) (by decide +kernel), List.mem_of_getElem? (i := 692) (by decide +kernel)⟩
theorem lw_p11 : lw_okq (⟨"SoundDesk$Finder", "choose", "(III)V"⟩, 10) := ⟨⟨by decide +kernel, by decide +kernel⟩, List.mem_of_getElem? (i := 26) (by decide +kernel), List.mem_of_getElem? (i := 703) (by decide +kernel), List.mem_of_getElem? (i := 704) (by decide +kernel)⟩
theorem lw_p12 : lw_okq (⟨"SoundDeskModel", "finding", "(I)I"⟩, 23) := ⟨⟨by decide +kernel, by decide +kernel⟩, List.mem_of_getElem? (i := 783) (by decide +kernel), List.mem_of_getElem? (i := 867) (by decide +kernel), List.mem_of_getElem? (i := 868) (by decide +kernel)⟩
theorem lw_p13 : lw_okq (⟨"SoundDeskModel", "isSound", "(I)Z"⟩, 23) := ⟨⟨by decide +kernel, by decide +kernel⟩, List.mem_of_getElem? (i := 783) (by decide +kernel), List.mem_of_getElem? (i := 875) (by decide +kernel), List.mem_of_getElem? (i := 876) (by decide +kernel)⟩
theorem lw_p14 : lw_okq (⟨"SoundDeskModel", "isOf", "(II)Z"⟩, 23) := ⟨⟨by decide +kernel, by decide +kernel⟩, List.mem_of_getElem? (i := 783) (by decide +kernel), List.mem_of_getElem? (i := 883) (by decide +kernel), List.mem_of_getElem? (i := 884) (by decide +kernel)⟩
theorem lw_p15 : lw_okq (⟨"SoundDeskModel", "isLaw", "(I)Z"⟩, 23) := ⟨⟨by decide +kernel, by decide +kernel⟩, List.mem_of_getElem? (i := 783) (by decide +kernel), List.mem_of_getElem? (i := 895) (by decide +kernel), List.mem_of_getElem? (i := 896) (by decide +kernel)⟩
def lw_privs_1 : List (MethodName × Nat) := [(⟨"SoundDesk", "found", "(I)I"⟩, 7), (⟨"SoundDesk$Laws", "fittingBits", "(ILSoundDesk$Sounds;)I"⟩, 9), (⟨"SoundDesk$Laws", "sweep", "(IJII)J"⟩, 9), (⟨"SoundDesk$Laws", "addChanged", "(IJI)J"⟩, 9), (⟨"SoundDesk", "shown", "(J)I"⟩, 7), (⟨"SoundDesk$Finder", "showFirst", "(JI)V"⟩, 10), (⟨"SoundDesk$Finder", "leadByAll", "(J)V"⟩, 10), (⟨"SoundDesk$Finder", "noteStandingLaws", "(II)V"⟩, 10), (⟨"SoundDesk$Finder", "seat", "(II[I)V"⟩, 10), (⟨"SoundDesk$Finder", "nextSeats", "(I)Z"⟩, 10), (⟨"SoundDesk$Finder", "exchangeSeats", "(II)V"⟩, 10), (⟨"SoundDesk$Finder", "choose", "(III)V"⟩, 10), (⟨"SoundDeskModel", "finding", "(I)I"⟩, 23), (⟨"SoundDeskModel", "isSound", "(I)Z"⟩, 23), (⟨"SoundDeskModel", "isOf", "(II)Z"⟩, 23), (⟨"SoundDeskModel", "isLaw", "(I)Z"⟩, 23)]
theorem lw_r1 : ∀ q ∈ lw_privs_1, lw_okq q := List.forall_mem_cons.mpr ⟨lw_p0, List.forall_mem_cons.mpr ⟨lw_p1, List.forall_mem_cons.mpr ⟨lw_p2, List.forall_mem_cons.mpr ⟨lw_p3, List.forall_mem_cons.mpr ⟨lw_p4, List.forall_mem_cons.mpr ⟨lw_p5, List.forall_mem_cons.mpr ⟨lw_p6, List.forall_mem_cons.mpr ⟨lw_p7, List.forall_mem_cons.mpr ⟨lw_p8, List.forall_mem_cons.mpr ⟨lw_p9, List.forall_mem_cons.mpr ⟨lw_p10, List.forall_mem_cons.mpr ⟨lw_p11, List.forall_mem_cons.mpr ⟨lw_p12, List.forall_mem_cons.mpr ⟨lw_p13, List.forall_mem_cons.mpr ⟨lw_p14, List.forall_mem_cons.mpr ⟨lw_p15, fun _ h => absurd h List.not_mem_nil⟩⟩⟩⟩⟩⟩⟩⟩⟩⟩⟩⟩⟩⟩⟩⟩
theorem lw_p16 : lw_okq (⟨"SoundDeskModel", "isTongue", "(I)Z"⟩, 23) := ⟨⟨by decide +kernel, by decide +kernel⟩, List.mem_of_getElem? (i := 783) (by decide +kernel), List.mem_of_getElem? (i := 907) (by decide +kernel), List.mem_of_getElem? (i := 908) (by decide +kernel)⟩
theorem lw_p17 : lw_okq (⟨"SoundDeskModel", "hasTwo", "(II)Z"⟩, 23) := ⟨⟨by decide +kernel, by decide +kernel⟩, List.mem_of_getElem? (i := 783) (by decide +kernel), List.mem_of_getElem? (i := 919) (by decide +kernel), List.mem_of_getElem? (i := 920) (by decide +kernel)⟩
theorem lw_p18 : lw_okq (⟨"SoundDeskModel", "findLaws", "(I)V"⟩, 23) := ⟨⟨by decide +kernel, by decide +kernel⟩, List.mem_of_getElem? (i := 783) (by decide +kernel), List.mem_of_getElem? (i := 927) (by decide +kernel), List.mem_of_getElem? (i := 928) (by decide +kernel)⟩
theorem lw_p19 : lw_okq (⟨"SoundDeskModel", "takeWord", "()V"⟩, 23) := ⟨⟨by decide +kernel, by decide +kernel⟩, List.mem_of_getElem? (i := 783) (by decide +kernel), List.mem_of_getElem? (i := 951) (by decide +kernel), List.mem_of_getElem? (i := 952) (by decide +kernel)⟩
theorem lw_p20 : lw_okq (⟨"SoundDeskModel", "goAll", "()Z"⟩, 23) := ⟨⟨by decide +kernel, by decide +kernel⟩, List.mem_of_getElem? (i := 783) (by decide +kernel), List.mem_of_getElem? (i := 955) (by decide +kernel), List.mem_of_getElem? (i := 956) (by decide +kernel)⟩
theorem lw_p21 : lw_okq (⟨"SoundDeskModel", "go", "(I)Z"⟩, 23) := ⟨⟨by decide +kernel, by decide +kernel⟩, List.mem_of_getElem? (i := 783) (by decide +kernel), List.mem_of_getElem? (i := 959) (by decide +kernel), List.mem_of_getElem? (i := 960) (by decide +kernel)⟩
theorem lw_p22 : lw_okq (⟨"SoundDeskModel", "goLeft", "(I)V"⟩, 23) := ⟨⟨by decide +kernel, by decide +kernel⟩, List.mem_of_getElem? (i := 783) (by decide +kernel), List.mem_of_getElem? (i := 963) (by decide +kernel), List.mem_of_getElem? (i := 964) (by decide +kernel)⟩
theorem lw_p23 : lw_okq (⟨"SoundDeskModel", "fits", "(IIII)Z"⟩, 23) := ⟨⟨by decide +kernel, by decide +kernel⟩, List.mem_of_getElem? (i := 783) (by decide +kernel), List.mem_of_getElem? (i := 967) (by decide +kernel), List.mem_of_getElem? (i := 968) (by decide +kernel)⟩
theorem lw_p24 : lw_okq (⟨"SoundDeskModel", "fitsSet", "(III)Z"⟩, 23) := ⟨⟨by decide +kernel, by decide +kernel⟩, List.mem_of_getElem? (i := 783) (by decide +kernel), List.mem_of_getElem? (i := 971) (by decide +kernel), List.mem_of_getElem? (i := 972) (by decide +kernel)⟩
theorem lw_p25 : lw_okq (⟨"SoundDeskModel", "make", "(I)V"⟩, 23) := ⟨⟨by decide +kernel, by decide +kernel⟩, List.mem_of_getElem? (i := 783) (by decide +kernel), List.mem_of_getElem? (i := 975) (by decide +kernel), List.mem_of_getElem? (i := 976) (by decide +kernel)⟩
theorem lw_p26 : lw_okq (⟨"SoundDeskModel", "goRight", "(II)V"⟩, 23) := ⟨⟨by decide +kernel, by decide +kernel⟩, List.mem_of_getElem? (i := 783) (by decide +kernel), List.mem_of_getElem? (i := 979) (by decide +kernel), List.mem_of_getElem? (i := 980) (by decide +kernel)⟩
theorem lw_p27 : lw_okq (⟨"SoundDeskModel", "tell", "()I"⟩, 23) := ⟨⟨by decide +kernel, by decide +kernel⟩, List.mem_of_getElem? (i := 783) (by decide +kernel), List.mem_of_getElem? (i := 983) (by decide +kernel), List.mem_of_getElem? (i := 984) (by decide +kernel)⟩
theorem lw_p28 : lw_okq (⟨"SoundDeskModel", "codeOf", "(II)J"⟩, 23) := ⟨⟨by decide +kernel, by decide +kernel⟩, List.mem_of_getElem? (i := 783) (by decide +kernel), List.mem_of_getElem? (i := 999) (by decide +kernel), List.mem_of_getElem? (i := 1000) (by decide +kernel)⟩
theorem lw_p29 : lw_okq (⟨"SoundDeskModel", "beginSome", "()V"⟩, 23) := ⟨⟨by decide +kernel, by decide +kernel⟩, List.mem_of_getElem? (i := 783) (by decide +kernel), List.mem_of_getElem? (i := 1005) (by decide +kernel), List.mem_of_getElem? (i := 1006) (by decide +kernel)⟩
theorem lw_p30 : lw_okq (⟨"SoundDeskModel", "takeSome", "()V"⟩, 23) := ⟨⟨by decide +kernel, by decide +kernel⟩, List.mem_of_getElem? (i := 783) (by decide +kernel), List.mem_of_getElem? (i := 1009) (by decide +kernel), List.mem_of_getElem? (i := 1010) (by decide +kernel)⟩
theorem lw_p31 : lw_okq (⟨"SoundDeskModel", "code", "()J"⟩, 23) := ⟨⟨by decide +kernel, by decide +kernel⟩, List.mem_of_getElem? (i := 783) (by decide +kernel), List.mem_of_getElem? (i := 1013) (by decide +kernel), List.mem_of_getElem? (i := 1014) (by decide +kernel)⟩
def lw_privs_2 : List (MethodName × Nat) := [(⟨"SoundDeskModel", "isTongue", "(I)Z"⟩, 23), (⟨"SoundDeskModel", "hasTwo", "(II)Z"⟩, 23), (⟨"SoundDeskModel", "findLaws", "(I)V"⟩, 23), (⟨"SoundDeskModel", "takeWord", "()V"⟩, 23), (⟨"SoundDeskModel", "goAll", "()Z"⟩, 23), (⟨"SoundDeskModel", "go", "(I)Z"⟩, 23), (⟨"SoundDeskModel", "goLeft", "(I)V"⟩, 23), (⟨"SoundDeskModel", "fits", "(IIII)Z"⟩, 23), (⟨"SoundDeskModel", "fitsSet", "(III)Z"⟩, 23), (⟨"SoundDeskModel", "make", "(I)V"⟩, 23), (⟨"SoundDeskModel", "goRight", "(II)V"⟩, 23), (⟨"SoundDeskModel", "tell", "()I"⟩, 23), (⟨"SoundDeskModel", "codeOf", "(II)J"⟩, 23), (⟨"SoundDeskModel", "beginSome", "()V"⟩, 23), (⟨"SoundDeskModel", "takeSome", "()V"⟩, 23), (⟨"SoundDeskModel", "code", "()J"⟩, 23)]
theorem lw_r2 : ∀ q ∈ lw_privs_2, lw_okq q := List.forall_mem_cons.mpr ⟨lw_p16, List.forall_mem_cons.mpr ⟨lw_p17, List.forall_mem_cons.mpr ⟨lw_p18, List.forall_mem_cons.mpr ⟨lw_p19, List.forall_mem_cons.mpr ⟨lw_p20, List.forall_mem_cons.mpr ⟨lw_p21, List.forall_mem_cons.mpr ⟨lw_p22, List.forall_mem_cons.mpr ⟨lw_p23, List.forall_mem_cons.mpr ⟨lw_p24, List.forall_mem_cons.mpr ⟨lw_p25, List.forall_mem_cons.mpr ⟨lw_p26, List.forall_mem_cons.mpr ⟨lw_p27, List.forall_mem_cons.mpr ⟨lw_p28, List.forall_mem_cons.mpr ⟨lw_p29, List.forall_mem_cons.mpr ⟨lw_p30, List.forall_mem_cons.mpr ⟨lw_p31, fun _ h => absurd h List.not_mem_nil⟩⟩⟩⟩⟩⟩⟩⟩⟩⟩⟩⟩⟩⟩⟩⟩
theorem lw_p32 : lw_okq (⟨"SoundDeskModel", "tellSome", "()V"⟩, 23) := ⟨⟨by decide +kernel, by decide +kernel⟩, List.mem_of_getElem? (i := 783) (by decide +kernel), List.mem_of_getElem? (i := 1018) (by decide +kernel), List.mem_of_getElem? (i := 1019) (by decide +kernel)⟩
theorem lw_p33 : lw_okq (⟨"SoundDeskModel", "nextSome", "(I)Z"⟩, 23) := ⟨⟨by decide +kernel, by decide +kernel⟩, List.mem_of_getElem? (i := 783) (by decide +kernel), List.mem_of_getElem? (i := 1022) (by decide +kernel), List.mem_of_getElem? (i := 1023) (by decide +kernel)⟩
theorem lw_p34 : lw_okq (⟨"SoundDeskModel", "takeTwo", "(II)V"⟩, 23) := ⟨⟨by decide +kernel, by decide +kernel⟩, List.mem_of_getElem? (i := 783) (by decide +kernel), List.mem_of_getElem? (i := 1038) (by decide +kernel), List.mem_of_getElem? (i := 1039) (by decide +kernel)⟩
theorem lw_p35 : lw_okq (⟨"SoundDeskModel", "isMeaning", "(I)Z"⟩, 23) := ⟨⟨by decide +kernel, by decide +kernel⟩, List.mem_of_getElem? (i := 783) (by decide +kernel), List.mem_of_getElem? (i := 1050) (by decide +kernel), List.mem_of_getElem? (i := 1051) (by decide +kernel)⟩
theorem lw_p36 : lw_okq (⟨"SoundDeskModel", "formAt", "(II)I"⟩, 23) := ⟨⟨by decide +kernel, by decide +kernel⟩, List.mem_of_getElem? (i := 783) (by decide +kernel), List.mem_of_getElem? (i := 1054) (by decide +kernel), List.mem_of_getElem? (i := 1055) (by decide +kernel)⟩
theorem lw_p37 : lw_okq (⟨"SoundDeskModel", "formsOf", "(I)I"⟩, 23) := ⟨⟨by decide +kernel, by decide +kernel⟩, List.mem_of_getElem? (i := 783) (by decide +kernel), List.mem_of_getElem? (i := 1058) (by decide +kernel), List.mem_of_getElem? (i := 1059) (by decide +kernel)⟩
theorem lw_p38 : lw_okq (⟨"SoundDeskModel", "formSize", "(II)I"⟩, 23) := ⟨⟨by decide +kernel, by decide +kernel⟩, List.mem_of_getElem? (i := 783) (by decide +kernel), List.mem_of_getElem? (i := 1062) (by decide +kernel), List.mem_of_getElem? (i := 1063) (by decide +kernel)⟩
theorem lw_p39 : lw_okq (⟨"SoundDeskModel", "leadAll", "()V"⟩, 23) := ⟨⟨by decide +kernel, by decide +kernel⟩, List.mem_of_getElem? (i := 783) (by decide +kernel), List.mem_of_getElem? (i := 1070) (by decide +kernel), List.mem_of_getElem? (i := 1071) (by decide +kernel)⟩
theorem lw_p40 : lw_okq (⟨"SoundDeskModel", "isRoot", "(I)Z"⟩, 23) := ⟨⟨by decide +kernel, by decide +kernel⟩, List.mem_of_getElem? (i := 783) (by decide +kernel), List.mem_of_getElem? (i := 1074) (by decide +kernel), List.mem_of_getElem? (i := 1075) (by decide +kernel)⟩
theorem lw_p41 : lw_okq (⟨"SoundDeskModel", "hits", "(I)I"⟩, 23) := ⟨⟨by decide +kernel, by decide +kernel⟩, List.mem_of_getElem? (i := 783) (by decide +kernel), List.mem_of_getElem? (i := 1078) (by decide +kernel), List.mem_of_getElem? (i := 1079) (by decide +kernel)⟩
theorem lw_p42 : lw_okq (⟨"SoundDeskModel", "explained", "(I)I"⟩, 23) := ⟨⟨by decide +kernel, by decide +kernel⟩, List.mem_of_getElem? (i := 783) (by decide +kernel), List.mem_of_getElem? (i := 1090) (by decide +kernel), List.mem_of_getElem? (i := 1091) (by decide +kernel)⟩
theorem lw_p43 : lw_okq (⟨"SoundDeskModel", "takeOwn", "(I)V"⟩, 23) := ⟨⟨by decide +kernel, by decide +kernel⟩, List.mem_of_getElem? (i := 783) (by decide +kernel), List.mem_of_getElem? (i := 1098) (by decide +kernel), List.mem_of_getElem? (i := 1099) (by decide +kernel)⟩
theorem lw_p44 : lw_okq (⟨"SoundDeskModel", "putOwn", "(I[II)V"⟩, 23) := ⟨⟨by decide +kernel, by decide +kernel⟩, List.mem_of_getElem? (i := 783) (by decide +kernel), List.mem_of_getElem? (i := 1102) (by decide +kernel), List.mem_of_getElem? (i := 1103) (by decide +kernel)⟩
theorem lw_p45 : lw_okq (⟨"SoundDeskModel", "nextOrder", "(I)Z"⟩, 23) := ⟨⟨by decide +kernel, by decide +kernel⟩, List.mem_of_getElem? (i := 783) (by decide +kernel), List.mem_of_getElem? (i := 1106) (by decide +kernel), List.mem_of_getElem? (i := 1107) (by decide +kernel)⟩
theorem lw_p46 : lw_okq (⟨"SoundDeskModel", "swapPlaces", "(II)V"⟩, 23) := ⟨⟨by decide +kernel, by decide +kernel⟩, List.mem_of_getElem? (i := 783) (by decide +kernel), List.mem_of_getElem? (i := 1110) (by decide +kernel), List.mem_of_getElem? (i := 1111) (by decide +kernel)⟩
theorem lw_p47 : lw_okq (⟨"SoundDeskModel", "takeBack", "(II)V"⟩, 23) := ⟨⟨by decide +kernel, by decide +kernel⟩, List.mem_of_getElem? (i := 783) (by decide +kernel), List.mem_of_getElem? (i := 1121) (by decide +kernel), List.mem_of_getElem? (i := 1122) (by decide +kernel)⟩
def lw_privs_3 : List (MethodName × Nat) := [(⟨"SoundDeskModel", "tellSome", "()V"⟩, 23), (⟨"SoundDeskModel", "nextSome", "(I)Z"⟩, 23), (⟨"SoundDeskModel", "takeTwo", "(II)V"⟩, 23), (⟨"SoundDeskModel", "isMeaning", "(I)Z"⟩, 23), (⟨"SoundDeskModel", "formAt", "(II)I"⟩, 23), (⟨"SoundDeskModel", "formsOf", "(I)I"⟩, 23), (⟨"SoundDeskModel", "formSize", "(II)I"⟩, 23), (⟨"SoundDeskModel", "leadAll", "()V"⟩, 23), (⟨"SoundDeskModel", "isRoot", "(I)Z"⟩, 23), (⟨"SoundDeskModel", "hits", "(I)I"⟩, 23), (⟨"SoundDeskModel", "explained", "(I)I"⟩, 23), (⟨"SoundDeskModel", "takeOwn", "(I)V"⟩, 23), (⟨"SoundDeskModel", "putOwn", "(I[II)V"⟩, 23), (⟨"SoundDeskModel", "nextOrder", "(I)Z"⟩, 23), (⟨"SoundDeskModel", "swapPlaces", "(II)V"⟩, 23), (⟨"SoundDeskModel", "takeBack", "(II)V"⟩, 23)]
theorem lw_r3 : ∀ q ∈ lw_privs_3, lw_okq q := List.forall_mem_cons.mpr ⟨lw_p32, List.forall_mem_cons.mpr ⟨lw_p33, List.forall_mem_cons.mpr ⟨lw_p34, List.forall_mem_cons.mpr ⟨lw_p35, List.forall_mem_cons.mpr ⟨lw_p36, List.forall_mem_cons.mpr ⟨lw_p37, List.forall_mem_cons.mpr ⟨lw_p38, List.forall_mem_cons.mpr ⟨lw_p39, List.forall_mem_cons.mpr ⟨lw_p40, List.forall_mem_cons.mpr ⟨lw_p41, List.forall_mem_cons.mpr ⟨lw_p42, List.forall_mem_cons.mpr ⟨lw_p43, List.forall_mem_cons.mpr ⟨lw_p44, List.forall_mem_cons.mpr ⟨lw_p45, List.forall_mem_cons.mpr ⟨lw_p46, List.forall_mem_cons.mpr ⟨lw_p47, fun _ h => absurd h List.not_mem_nil⟩⟩⟩⟩⟩⟩⟩⟩⟩⟩⟩⟩⟩⟩⟩⟩
theorem lw_p48 : lw_okq (⟨"SoundDeskModel", "costOf", "(II)I"⟩, 23) := ⟨⟨by decide +kernel, by decide +kernel⟩, List.mem_of_getElem? (i := 783) (by decide +kernel), List.mem_of_getElem? (i := 1137) (by decide +kernel), List.mem_of_getElem? (i := 1138) (by decide +kernel)⟩
theorem lw_p49 : lw_okq (⟨"SoundDeskModel", "isTold", "(II)Z"⟩, 23) := ⟨⟨by decide +kernel, by decide +kernel⟩, List.mem_of_getElem? (i := 783) (by decide +kernel), List.mem_of_getElem? (i := 1149) (by decide +kernel), List.mem_of_getElem? (i := 1150) (by decide +kernel)⟩
def lw_privs_4 : List (MethodName × Nat) := [(⟨"SoundDeskModel", "costOf", "(II)I"⟩, 23), (⟨"SoundDeskModel", "isTold", "(II)Z"⟩, 23)]
theorem lw_r4 : ∀ q ∈ lw_privs_4, lw_okq q := List.forall_mem_cons.mpr ⟨lw_p48, List.forall_mem_cons.mpr ⟨lw_p49, fun _ h => absurd h List.not_mem_nil⟩⟩
def lw_privs : List (MethodName × Nat) := lw_privs_1 ++ (lw_privs_2 ++ (lw_privs_3 ++ (lw_privs_4)))
def lw_tbl : List Cond := k2_sels lw_privs ++ tables_1
theorem lw_privs_ok : ∀ q ∈ lw_privs, lw_okq q := by
  show ∀ q ∈ lw_privs_1 ++ (lw_privs_2 ++ (lw_privs_3 ++ (lw_privs_4))), lw_okq q
  exact List.forall_mem_append.mpr ⟨lw_r1, List.forall_mem_append.mpr ⟨lw_r2, List.forall_mem_append.mpr ⟨lw_r3, lw_r4⟩⟩⟩
def RX0 : String := "SoundDesk$Finder"
def TX0 : u_T := fun k => match k with
  | 0 => ("SoundDesk$Finder", "state", "LSoundDesk$State;", true)
  | 1 => ("SoundDesk$Finder", "row", "LSoundDesk$Row;", true)
  | 2 => ("SoundDesk$Finder", "path", "LSoundDesk$Path;", true)
  | 3 => ("SoundDesk$Finder", "otherRow", "LSoundDesk$Row;", true)
  | 4 => ("SoundDesk$Finder", "seen", "LSoundDesk$WordSet;", true)
  | 5 => ("SoundDesk$Finder", "goals", "[J", true)
  | 6 => ("SoundDesk$Finder", "standingLaws", "[I", true)
  | 7 => ("SoundDesk$Finder", "seats", "[I", true)
  | 8 => ("SoundDesk$Finder", "bestSeats", "[I", true)
  | _ => ("SoundDesk$Finder", "costs", "[I", true)
def tyX0 : Nat → FieldType := fun k => match k with
  | 0 => .object "SoundDesk$State"
  | 1 => .object "SoundDesk$Row"
  | 2 => .object "SoundDesk$Path"
  | 3 => .object "SoundDesk$Row"
  | 4 => .object "SoundDesk$WordSet"
  | 5 => .array .long
  | 6 => .array .int
  | 7 => .array .int
  | 8 => .array .int
  | _ => .array .int
abbrev wsX00 : List Cond := u_ws RX0 TX0 10
theorem nmX0 : ∀ a, a < 10 → ∀ b, b < 10 → a ≠ b → (TX0 a).2.1 ≠ (TX0 b).2.1 := by decide +kernel
theorem tyX0_ok : ∀ k, k < 10 → parseFieldDescriptor (TX0 k).2.2.1 = some (tyX0 k) := by decide +kernel
abbrev cX0_init : ByteArray := prog_2_method_1_code
def yX0_init : MethodName := ⟨RX0, "<init>", "()V"⟩
abbrev cX0_walk : ByteArray := prog_2_method_2_code
def yX0_walk : MethodName := ⟨RX0, "walk", "(I)J"⟩
abbrev cX0_countLeadingHere : ByteArray := prog_2_method_3_code
def yX0_countLeadingHere : MethodName := ⟨RX0, "countLeadingHere", "(II)I"⟩
abbrev cX0_firstLedApart : ByteArray := prog_2_method_4_code
def yX0_firstLedApart : MethodName := ⟨RX0, "firstLedApart", "(III)J"⟩
abbrev cX0_countLost : ByteArray := prog_2_method_5_code
def yX0_countLost : MethodName := ⟨RX0, "countLost", "(II)I"⟩
abbrev cX0_showFirst : ByteArray := prog_2_method_6_code
def yX0_showFirst : MethodName := ⟨RX0, "showFirst", "(JI)V"⟩
abbrev cX0_standing : ByteArray := prog_2_method_7_code
def yX0_standing : MethodName := ⟨RX0, "standing", "(III)I"⟩
abbrev cX0_leadByAll : ByteArray := prog_2_method_8_code
def yX0_leadByAll : MethodName := ⟨RX0, "leadByAll", "(J)V"⟩
abbrev cX0_countRoots : ByteArray := prog_2_method_9_code
def yX0_countRoots : MethodName := ⟨RX0, "countRoots", "(II)I"⟩
abbrev cX0_mostAgreeing : ByteArray := prog_2_method_10_code
def yX0_mostAgreeing : MethodName := ⟨RX0, "mostAgreeing", "(II)I"⟩
abbrev cX0_countExplained : ByteArray := prog_2_method_11_code
def yX0_countExplained : MethodName := ⟨RX0, "countExplained", "(I)I"⟩
abbrev cX0_arrange : ByteArray := prog_2_method_12_code
def yX0_arrange : MethodName := ⟨RX0, "arrange", "(II)I"⟩
abbrev cX0_noteStandingLaws : ByteArray := prog_2_method_13_code
def yX0_noteStandingLaws : MethodName := ⟨RX0, "noteStandingLaws", "(II)V"⟩
abbrev cX0_seat : ByteArray := prog_2_method_14_code
def yX0_seat : MethodName := ⟨RX0, "seat", "(II[I)V"⟩
abbrev cX0_nextSeats : ByteArray := prog_2_method_15_code
def yX0_nextSeats : MethodName := ⟨RX0, "nextSeats", "(I)Z"⟩
abbrev cX0_exchangeSeats : ByteArray := prog_2_method_16_code
def yX0_exchangeSeats : MethodName := ⟨RX0, "exchangeSeats", "(II)V"⟩
abbrev cX0_fewest : ByteArray := prog_2_method_17_code
def yX0_fewest : MethodName := ⟨RX0, "fewest", "(II)I"⟩
abbrev cX0_choose : ByteArray := prog_2_method_18_code
def yX0_choose : MethodName := ⟨RX0, "choose", "(III)V"⟩
abbrev cX0_leastCost : ByteArray := prog_2_method_19_code
def yX0_leastCost : MethodName := ⟨RX0, "leastCost", "(JJ)I"⟩
def RX1 : String := "SoundDesk$Laws"
def TX1 : u_T := fun k => match k with
  | 0 => ("SoundDesk$Laws", "count", "I", false)
  | 1 => ("SoundDesk$Laws", "touched", "I", false)
  | 2 => ("SoundDesk$Laws", "how", "[I", true)
  | 3 => ("SoundDesk$Laws", "into", "[I", true)
  | 4 => ("SoundDesk$Laws", "kind", "[I", true)
  | 5 => ("SoundDesk$Laws", "setKind", "[I", true)
  | 6 => ("SoundDesk$Laws", "setYes", "[I", true)
  | 7 => ("SoundDesk$Laws", "setNo", "[I", true)
  | _ => ("SoundDesk$Laws", "fitting", "[I", true)
def tyX1 : Nat → FieldType := fun k => match k with
  | 0 => .int
  | 1 => .int
  | 2 => .array .int
  | 3 => .array .int
  | 4 => .array .int
  | 5 => .array .int
  | 6 => .array .int
  | 7 => .array .int
  | _ => .array .int
abbrev wsX10 : List Cond := u_ws RX1 TX1 9
theorem nmX1 : ∀ a, a < 9 → ∀ b, b < 9 → a ≠ b → (TX1 a).2.1 ≠ (TX1 b).2.1 := by decide +kernel
theorem tyX1_ok : ∀ k, k < 9 → parseFieldDescriptor (TX1 k).2.2.1 = some (tyX1 k) := by decide +kernel
abbrev cX1_init : ByteArray := prog_3_method_1_code
def yX1_init : MethodName := ⟨RX1, "<init>", "()V"⟩
abbrev cX1_isKind : ByteArray := prog_3_method_2_code
def yX1_isKind : MethodName := ⟨RX1, "isKind", "(I)Z"⟩
abbrev cX1_isHow : ByteArray := prog_3_method_3_code
def yX1_isHow : MethodName := ⟨RX1, "isHow", "(I)Z"⟩
abbrev cX1_isSet : ByteArray := prog_3_method_4_code
def yX1_isSet : MethodName := ⟨RX1, "isSet", "(IIII)Z"⟩
abbrev cX1_setPlace : ByteArray := prog_3_method_5_code
def yX1_setPlace : MethodName := ⟨RX1, "setPlace", "(II)I"⟩
abbrev cX1_copyFrom : ByteArray := prog_3_method_6_code
def yX1_copyFrom : MethodName := ⟨RX1, "copyFrom", "(LSoundDesk$Laws;)V"⟩
abbrev cX1_has : ByteArray := prog_3_method_7_code
def yX1_has : MethodName := ⟨RX1, "has", "(I)Z"⟩
abbrev cX1_add : ByteArray := prog_3_method_8_code
def yX1_add : MethodName := ⟨RX1, "add", "(ILSoundDesk$Sounds;)I"⟩
abbrev cX1_define : ByteArray := prog_3_method_9_code
def yX1_define : MethodName := ⟨RX1, "define", "(IIIILSoundDesk$Sounds;)V"⟩
abbrev cX1_fitAll : ByteArray := prog_3_method_10_code
def yX1_fitAll : MethodName := ⟨RX1, "fitAll", "(LSoundDesk$Sounds;)V"⟩
abbrev cX1_fittingBits : ByteArray := prog_3_method_11_code
def yX1_fittingBits : MethodName := ⟨RX1, "fittingBits", "(ILSoundDesk$Sounds;)I"⟩
abbrev cX1_lead : ByteArray := prog_3_method_12_code
def yX1_lead : MethodName := ⟨RX1, "lead", "(IJ)J"⟩
abbrev cX1_sweep : ByteArray := prog_3_method_13_code
def yX1_sweep : MethodName := ⟨RX1, "sweep", "(IJII)J"⟩
abbrev cX1_isIn : ByteArray := prog_3_method_14_code
def yX1_isIn : MethodName := ⟨RX1, "isIn", "(II)Z"⟩
abbrev cX1_addChanged : ByteArray := prog_3_method_15_code
def yX1_addChanged : MethodName := ⟨RX1, "addChanged", "(IJI)J"⟩
def RX2 : String := "SoundDesk$Meanings"
def TX2 : u_T := fun k => match k with
  | 0 => ("SoundDesk$Meanings", "count", "I", false)
  | _ => ("SoundDesk$Meanings", "form", "[[J", true)
def tyX2 : Nat → FieldType := fun k => match k with
  | 0 => .int
  | _ => .array (.array .long)
abbrev wsX20 : List Cond := u_ws RX2 TX2 2
theorem nmX2 : ∀ a, a < 2 → ∀ b, b < 2 → a ≠ b → (TX2 a).2.1 ≠ (TX2 b).2.1 := by decide +kernel
theorem tyX2_ok : ∀ k, k < 2 → parseFieldDescriptor (TX2 k).2.2.1 = some (tyX2 k) := by decide +kernel
abbrev cX2_init : ByteArray := prog_4_method_1_code
def yX2_init : MethodName := ⟨RX2, "<init>", "()V"⟩
abbrev cX2_copyFrom : ByteArray := prog_4_method_2_code
def yX2_copyFrom : MethodName := ⟨RX2, "copyFrom", "(LSoundDesk$Meanings;)V"⟩
abbrev cX2_has : ByteArray := prog_4_method_3_code
def yX2_has : MethodName := ⟨RX2, "has", "(I)Z"⟩
abbrev cX2_add : ByteArray := prog_4_method_4_code
def yX2_add : MethodName := ⟨RX2, "add", "()I"⟩
abbrev cX2_countForms : ByteArray := prog_4_method_5_code
def yX2_countForms : MethodName := ⟨RX2, "countForms", "(I)I"⟩
abbrev cX2_countAgreeing : ByteArray := prog_4_method_6_code
def yX2_countAgreeing : MethodName := ⟨RX2, "countAgreeing", "(I[J)I"⟩
abbrev cX2_isRooted : ByteArray := prog_4_method_7_code
def yX2_isRooted : MethodName := ⟨RX2, "isRooted", "(I[J)Z"⟩
abbrev cX2_withForms : ByteArray := prog_4_method_8_code
def yX2_withForms : MethodName := ⟨RX2, "withForms", "()I"⟩
def RX3 : String := "SoundDesk$Path"
def TX3 : u_T := fun k => match k with
  | 0 => ("SoundDesk$Path", "count", "I", false)
  | 1 => ("SoundDesk$Path", "word", "[J", true)
  | _ => ("SoundDesk$Path", "touched", "[I", true)
def tyX3 : Nat → FieldType := fun k => match k with
  | 0 => .int
  | 1 => .array .long
  | _ => .array .int
abbrev wsX30 : List Cond := u_ws RX3 TX3 3
theorem nmX3 : ∀ a, a < 3 → ∀ b, b < 3 → a ≠ b → (TX3 a).2.1 ≠ (TX3 b).2.1 := by decide +kernel
theorem tyX3_ok : ∀ k, k < 3 → parseFieldDescriptor (TX3 k).2.2.1 = some (tyX3 k) := by decide +kernel
abbrev cX3_init : ByteArray := prog_5_method_1_code
def yX3_init : MethodName := ⟨RX3, "<init>", "()V"⟩
abbrev cX3_copyFrom : ByteArray := prog_5_method_2_code
def yX3_copyFrom : MethodName := ⟨RX3, "copyFrom", "(LSoundDesk$Path;)V"⟩
abbrev cX3_has : ByteArray := prog_5_method_3_code
def yX3_has : MethodName := ⟨RX3, "has", "(I)Z"⟩
abbrev cX3_firstWrong : ByteArray := prog_5_method_4_code
def yX3_firstWrong : MethodName := ⟨RX3, "firstWrong", "([II)I"⟩
abbrev cX3_isTold : ByteArray := prog_5_method_5_code
def yX3_isTold : MethodName := ⟨RX3, "isTold", "(J[III)Z"⟩
def RX4 : String := "SoundDesk$Row"
def TX4 : u_T := fun k => match k with
  | 0 => ("SoundDesk$Row", "count", "I", false)
  | _ => ("SoundDesk$Row", "law", "[I", true)
def tyX4 : Nat → FieldType := fun k => match k with
  | 0 => .int
  | _ => .array .int
abbrev wsX40 : List Cond := u_ws RX4 TX4 2
theorem nmX4 : ∀ a, a < 2 → ∀ b, b < 2 → a ≠ b → (TX4 a).2.1 ≠ (TX4 b).2.1 := by decide +kernel
theorem tyX4_ok : ∀ k, k < 2 → parseFieldDescriptor (TX4 k).2.2.1 = some (tyX4 k) := by decide +kernel
abbrev cX4_init : ByteArray := prog_6_method_1_code
def yX4_init : MethodName := ⟨RX4, "<init>", "()V"⟩
abbrev cX4_fill : ByteArray := prog_6_method_2_code
def yX4_fill : MethodName := ⟨RX4, "fill", "(LSoundDesk$Tongues;I)V"⟩
abbrev cX4_lineOf : ByteArray := prog_6_method_3_code
def yX4_lineOf : MethodName := ⟨RX4, "lineOf", "(LSoundDesk$Tongues;I)I"⟩
abbrev cX4_leadAlong : ByteArray := prog_6_method_4_code
def yX4_leadAlong : MethodName := ⟨RX4, "leadAlong", "(LSoundDesk$Laws;J)J"⟩
def RX5 : String := "SoundDesk$Sounds"
def TX5 : u_T := fun k => match k with
  | 0 => ("SoundDesk$Sounds", "count", "I", false)
  | 1 => ("SoundDesk$Sounds", "missingRows", "I", false)
  | 2 => ("SoundDesk$Sounds", "kind", "[I", true)
  | 3 => ("SoundDesk$Sounds", "yes", "[I", true)
  | _ => ("SoundDesk$Sounds", "no", "[I", true)
def tyX5 : Nat → FieldType := fun k => match k with
  | 0 => .int
  | 1 => .int
  | 2 => .array .int
  | 3 => .array .int
  | _ => .array .int
abbrev wsX50 : List Cond := u_ws RX5 TX5 5
theorem nmX5 : ∀ a, a < 5 → ∀ b, b < 5 → a ≠ b → (TX5 a).2.1 ≠ (TX5 b).2.1 := by decide +kernel
theorem tyX5_ok : ∀ k, k < 5 → parseFieldDescriptor (TX5 k).2.2.1 = some (tyX5 k) := by decide +kernel
abbrev cX5_init : ByteArray := prog_7_method_1_code
def yX5_init : MethodName := ⟨RX5, "<init>", "()V"⟩
abbrev cX5_isKind : ByteArray := prog_7_method_2_code
def yX5_isKind : MethodName := ⟨RX5, "isKind", "(I)Z"⟩
abbrev cX5_isMarks : ByteArray := prog_7_method_3_code
def yX5_isMarks : MethodName := ⟨RX5, "isMarks", "(I)Z"⟩
abbrev cX5_isRow : ByteArray := prog_7_method_4_code
def yX5_isRow : MethodName := ⟨RX5, "isRow", "(II)Z"⟩
abbrev cX5_copyFrom : ByteArray := prog_7_method_5_code
def yX5_copyFrom : MethodName := ⟨RX5, "copyFrom", "(LSoundDesk$Sounds;)V"⟩
abbrev cX5_has : ByteArray := prog_7_method_6_code
def yX5_has : MethodName := ⟨RX5, "has", "(I)Z"⟩
abbrev cX5_add : ByteArray := prog_7_method_7_code
def yX5_add : MethodName := ⟨RX5, "add", "(III)I"⟩
abbrev cX5_isRowMissing : ByteArray := prog_7_method_8_code
def yX5_isRowMissing : MethodName := ⟨RX5, "isRowMissing", "(I)Z"⟩
abbrev cX5_markOf : ByteArray := prog_7_method_9_code
def yX5_markOf : MethodName := ⟨RX5, "markOf", "(II)I"⟩
abbrev cX5_isOf : ByteArray := prog_7_method_10_code
def yX5_isOf : MethodName := ⟨RX5, "isOf", "(II)Z"⟩
abbrev cX5_fits : ByteArray := prog_7_method_11_code
def yX5_fits : MethodName := ⟨RX5, "fits", "(IIII)Z"⟩
abbrev cX5_apart : ByteArray := prog_7_method_12_code
def yX5_apart : MethodName := ⟨RX5, "apart", "(II)I"⟩
def RX6 : String := "SoundDesk$State"
def TX6 : u_T := fun k => match k with
  | 0 => ("SoundDesk$State", "sounds", "LSoundDesk$Sounds;", true)
  | 1 => ("SoundDesk$State", "laws", "LSoundDesk$Laws;", true)
  | 2 => ("SoundDesk$State", "tongues", "LSoundDesk$Tongues;", true)
  | 3 => ("SoundDesk$State", "meanings", "LSoundDesk$Meanings;", true)
  | 4 => ("SoundDesk$State", "latest", "LSoundDesk$Path;", true)
  | 5 => ("SoundDesk$State", "word", "J", false)
  | 6 => ("SoundDesk$State", "outcome", "J", false)
  | _ => ("SoundDesk$State", "gap", "I", false)
def tyX6 : Nat → FieldType := fun k => match k with
  | 0 => .object "SoundDesk$Sounds"
  | 1 => .object "SoundDesk$Laws"
  | 2 => .object "SoundDesk$Tongues"
  | 3 => .object "SoundDesk$Meanings"
  | 4 => .object "SoundDesk$Path"
  | 5 => .long
  | 6 => .long
  | _ => .int
abbrev wsX60 : List Cond := u_ws RX6 TX6 8
theorem nmX6 : ∀ a, a < 8 → ∀ b, b < 8 → a ≠ b → (TX6 a).2.1 ≠ (TX6 b).2.1 := by decide +kernel
theorem tyX6_ok : ∀ k, k < 8 → parseFieldDescriptor (TX6 k).2.2.1 = some (tyX6 k) := by decide +kernel
abbrev cX6_init : ByteArray := prog_8_method_1_code
def yX6_init : MethodName := ⟨RX6, "<init>", "()V"⟩
abbrev cX6_takeOver : ByteArray := prog_8_method_2_code
def yX6_takeOver : MethodName := ⟨RX6, "takeOver", "(LSoundDesk$State;)V"⟩
def RX7 : String := "SoundDesk$Tongues"
def TX7 : u_T := fun k => match k with
  | 0 => ("SoundDesk$Tongues", "count", "I", false)
  | 1 => ("SoundDesk$Tongues", "parent", "[I", true)
  | 2 => ("SoundDesk$Tongues", "ownCount", "[I", true)
  | _ => ("SoundDesk$Tongues", "own", "[[I", true)
def tyX7 : Nat → FieldType := fun k => match k with
  | 0 => .int
  | 1 => .array .int
  | 2 => .array .int
  | _ => .array (.array .int)
abbrev wsX70 : List Cond := u_ws RX7 TX7 4
theorem nmX7 : ∀ a, a < 4 → ∀ b, b < 4 → a ≠ b → (TX7 a).2.1 ≠ (TX7 b).2.1 := by decide +kernel
theorem tyX7_ok : ∀ k, k < 4 → parseFieldDescriptor (TX7 k).2.2.1 = some (tyX7 k) := by decide +kernel
abbrev cX7_init : ByteArray := prog_9_method_1_code
def yX7_init : MethodName := ⟨RX7, "<init>", "()V"⟩
abbrev cX7_copyFrom : ByteArray := prog_9_method_2_code
def yX7_copyFrom : MethodName := ⟨RX7, "copyFrom", "(LSoundDesk$Tongues;)V"⟩
abbrev cX7_has : ByteArray := prog_9_method_3_code
def yX7_has : MethodName := ⟨RX7, "has", "(I)Z"⟩
abbrev cX7_hasPair : ByteArray := prog_9_method_4_code
def yX7_hasPair : MethodName := ⟨RX7, "hasPair", "(II)Z"⟩
abbrev cX7_add : ByteArray := prog_9_method_5_code
def yX7_add : MethodName := ⟨RX7, "add", "(I)I"⟩
abbrev cX7_append : ByteArray := prog_9_method_6_code
def yX7_append : MethodName := ⟨RX7, "append", "(II)I"⟩
abbrev cX7_exchange : ByteArray := prog_9_method_7_code
def yX7_exchange : MethodName := ⟨RX7, "exchange", "(II)V"⟩
def RX8 : String := "SoundDesk$WordSet"
def TX8 : u_T := fun k => match k with
  | _ => ("SoundDesk$WordSet", "slot", "[J", true)
def tyX8 : Nat → FieldType := fun k => match k with
  | _ => .array .long
abbrev wsX80 : List Cond := u_ws RX8 TX8 1
theorem nmX8 : ∀ a, a < 1 → ∀ b, b < 1 → a ≠ b → (TX8 a).2.1 ≠ (TX8 b).2.1 := by decide +kernel
theorem tyX8_ok : ∀ k, k < 1 → parseFieldDescriptor (TX8 k).2.2.1 = some (tyX8 k) := by decide +kernel
abbrev cX8_init : ByteArray := prog_10_method_1_code
def yX8_init : MethodName := ⟨RX8, "<init>", "()V"⟩
abbrev cX8_clear : ByteArray := prog_10_method_2_code
def yX8_clear : MethodName := ⟨RX8, "clear", "()V"⟩
abbrev cX8_isNew : ByteArray := prog_10_method_3_code
def yX8_isNew : MethodName := ⟨RX8, "isNew", "(J)Z"⟩
def RX9 : String := "SoundDesk$Words"
def TX9 : u_T := fun k => match k with
  | _ => ("", "", "", false)
def tyX9 : Nat → FieldType := fun k => match k with
  | _ => .int
abbrev wsX90 : List Cond := u_ws RX9 TX9 0
theorem nmX9 : ∀ a, a < 0 → ∀ b, b < 0 → a ≠ b → (TX9 a).2.1 ≠ (TX9 b).2.1 := by decide +kernel
theorem tyX9_ok : ∀ k, k < 0 → parseFieldDescriptor (TX9 k).2.2.1 = some (tyX9 k) := by decide +kernel
abbrev cX9_isTooLong : ByteArray := prog_11_method_2_code
def yX9_isTooLong : MethodName := ⟨RX9, "isTooLong", "(J)Z"⟩
abbrev cX9_add : ByteArray := prog_11_method_3_code
def yX9_add : MethodName := ⟨RX9, "add", "(JI)J"⟩
abbrev cX9_last : ByteArray := prog_11_method_4_code
def yX9_last : MethodName := ⟨RX9, "last", "(J)I"⟩
abbrev cX9_withoutLast : ByteArray := prog_11_method_5_code
def yX9_withoutLast : MethodName := ⟨RX9, "withoutLast", "(J)J"⟩
abbrev cX9_size : ByteArray := prog_11_method_6_code
def yX9_size : MethodName := ⟨RX9, "size", "(J)I"⟩
abbrev cX9_soundAt : ByteArray := prog_11_method_7_code
def yX9_soundAt : MethodName := ⟨RX9, "soundAt", "(JI)I"⟩
abbrev cX9_turned : ByteArray := prog_11_method_8_code
def yX9_turned : MethodName := ⟨RX9, "turned", "(J)J"⟩
abbrev cX9_howMany : ByteArray := prog_11_method_9_code
def yX9_howMany : MethodName := ⟨RX9, "howMany", "(II)I"⟩
abbrev cX9_next : ByteArray := prog_11_method_10_code
def yX9_next : MethodName := ⟨RX9, "next", "(JI)J"⟩
def RX10 : String := "SoundDesk"
def TX10 : u_T := fun k => match k with
  | 0 => ("SoundDesk", "finder", "LSoundDesk$Finder;", true)
  | 1 => ("SoundDesk", "now", "LSoundDesk$State;", true)
  | 2 => ("SoundDesk", "kept", "LSoundDesk$State;", true)
  | 3 => ("SoundDesk", "waiting", "[I", true)
  | 4 => ("SoundDesk", "waitingCount", "I", false)
  | 5 => ("SoundDesk", "anythingKept", "Z", false)
  | _ => ("SoundDesk", "findings", "I", false)
def tyX10 : Nat → FieldType := fun k => match k with
  | 0 => .object "SoundDesk$Finder"
  | 1 => .object "SoundDesk$State"
  | 2 => .object "SoundDesk$State"
  | 3 => .array .int
  | 4 => .int
  | 5 => .boolean
  | _ => .int
abbrev wsX100 : List Cond := u_ws RX10 TX10 7
theorem nmX10 : ∀ a, a < 7 → ∀ b, b < 7 → a ≠ b → (TX10 a).2.1 ≠ (TX10 b).2.1 := by decide +kernel
theorem tyX10_ok : ∀ k, k < 7 → parseFieldDescriptor (TX10 k).2.2.1 = some (tyX10 k) := by decide +kernel
abbrev cX10_init : ByteArray := prog_1_method_1_code
def yX10_init : MethodName := ⟨RX10, "<init>", "()V"⟩
abbrev cX10_sound : ByteArray := prog_1_method_2_code
def yX10_sound : MethodName := ⟨RX10, "sound", "(III)I"⟩
abbrev cX10_mark : ByteArray := prog_1_method_3_code
def yX10_mark : MethodName := ⟨RX10, "mark", "(II)I"⟩
abbrev cX10_as : ByteArray := prog_1_method_4_code
def yX10_as : MethodName := ⟨RX10, "as", "(II)I"⟩
abbrev cX10_law : ByteArray := prog_1_method_5_code
def yX10_law : MethodName := ⟨RX10, "law", "(I)I"⟩
abbrev cX10_set : ByteArray := prog_1_method_6_code
def yX10_set : MethodName := ⟨RX10, "set", "(IIIII)I"⟩
abbrev cX10_becomes : ByteArray := prog_1_method_7_code
def yX10_becomes : MethodName := ⟨RX10, "becomes", "(III)I"⟩
abbrev cX10_tongue : ByteArray := prog_1_method_8_code
def yX10_tongue : MethodName := ⟨RX10, "tongue", "(I)I"⟩
abbrev cX10_give : ByteArray := prog_1_method_9_code
def yX10_give : MethodName := ⟨RX10, "give", "(II)I"⟩
abbrev cX10_swap : ByteArray := prog_1_method_10_code
def yX10_swap : MethodName := ⟨RX10, "swap", "(II)I"⟩
abbrev cX10_laws : ByteArray := prog_1_method_11_code
def yX10_laws : MethodName := ⟨RX10, "laws", "(I)I"⟩
abbrev cX10_lawAt : ByteArray := prog_1_method_12_code
def yX10_lawAt : MethodName := ⟨RX10, "lawAt", "(II)I"⟩
abbrev cX10_say : ByteArray := prog_1_method_13_code
def yX10_say : MethodName := ⟨RX10, "say", "(I)I"⟩
abbrev cX10_hush : ByteArray := prog_1_method_14_code
def yX10_hush : MethodName := ⟨RX10, "hush", "()I"⟩
abbrev cX10_result : ByteArray := prog_1_method_15_code
def yX10_result : MethodName := ⟨RX10, "result", "(I)I"⟩
abbrev cX10_led : ByteArray := prog_1_method_16_code
def yX10_led : MethodName := ⟨RX10, "led", "(I)I"⟩
abbrev cX10_step : ByteArray := prog_1_method_17_code
def yX10_step : MethodName := ⟨RX10, "step", "(I)I"⟩
abbrev cX10_places : ByteArray := prog_1_method_18_code
def yX10_places : MethodName := ⟨RX10, "places", "(I)I"⟩
abbrev cX10_back : ByteArray := prog_1_method_19_code
def yX10_back : MethodName := ⟨RX10, "back", "(II)I"⟩
abbrev cX10_differ : ByteArray := prog_1_method_20_code
def yX10_differ : MethodName := ⟨RX10, "differ", "(III)I"⟩
abbrev cX10_loses : ByteArray := prog_1_method_21_code
def yX10_loses : MethodName := ⟨RX10, "loses", "(II)I"⟩
abbrev cX10_stand : ByteArray := prog_1_method_22_code
def yX10_stand : MethodName := ⟨RX10, "stand", "(III)I"⟩
abbrev cX10_meaning : ByteArray := prog_1_method_23_code
def yX10_meaning : MethodName := ⟨RX10, "meaning", "()I"⟩
abbrev cX10_form : ByteArray := prog_1_method_24_code
def yX10_form : MethodName := ⟨RX10, "form", "(II)I"⟩
abbrev cX10_roots : ByteArray := prog_1_method_25_code
def yX10_roots : MethodName := ⟨RX10, "roots", "(II)I"⟩
abbrev cX10_some : ByteArray := prog_1_method_26_code
def yX10_some : MethodName := ⟨RX10, "some", "(II)I"⟩
abbrev cX10_explain : ByteArray := prog_1_method_27_code
def yX10_explain : MethodName := ⟨RX10, "explain", "(I)I"⟩
abbrev cX10_order : ByteArray := prog_1_method_28_code
def yX10_order : MethodName := ⟨RX10, "order", "(II)I"⟩
abbrev cX10_few : ByteArray := prog_1_method_29_code
def yX10_few : MethodName := ⟨RX10, "few", "(II)I"⟩
abbrev cX10_cost : ByteArray := prog_1_method_30_code
def yX10_cost : MethodName := ⟨RX10, "cost", "(I)I"⟩
abbrev cX10_match : ByteArray := prog_1_method_31_code
def yX10_match : MethodName := ⟨RX10, "match", "(III)I"⟩
abbrev cX10_put : ByteArray := prog_1_method_32_code
def yX10_put : MethodName := ⟨RX10, "put", "(I)I"⟩
abbrev cX10_check : ByteArray := prog_1_method_33_code
def yX10_check : MethodName := ⟨RX10, "check", "(I)I"⟩
abbrev cX10_keep : ByteArray := prog_1_method_34_code
def yX10_keep : MethodName := ⟨RX10, "keep", "()I"⟩
abbrev cX10_again : ByteArray := prog_1_method_35_code
def yX10_again : MethodName := ⟨RX10, "again", "()I"⟩
abbrev cX10_told : ByteArray := prog_1_method_36_code
def yX10_told : MethodName := ⟨RX10, "told", "(I)I"⟩
abbrev cX10_found : ByteArray := prog_1_method_37_code
def yX10_found : MethodName := ⟨RX10, "found", "(I)I"⟩
abbrev cX10_shown : ByteArray := prog_1_method_38_code
def yX10_shown : MethodName := ⟨RX10, "shown", "(J)I"⟩
abbrev cX10_isTried : ByteArray := prog_1_method_39_code
def yX10_isTried : MethodName := ⟨RX10, "isTried", "(I)Z"⟩
abbrev cX10_isArranged : ByteArray := prog_1_method_40_code
def yX10_isArranged : MethodName := ⟨RX10, "isArranged", "(I)Z"⟩
def RX11 : String := "SoundDeskModel"
def TX11 : u_T := fun k => match k with
  | 0 => ("SoundDeskModel", "now", "[I", true)
  | 1 => ("SoundDeskModel", "kept", "[I", true)
  | 2 => ("SoundDeskModel", "isKept", "Z", false)
  | 3 => ("SoundDeskModel", "waiting", "[I", true)
  | 4 => ("SoundDeskModel", "waits", "I", false)
  | 5 => ("SoundDeskModel", "findings", "I", false)
  | 6 => ("SoundDeskModel", "row", "[I", true)
  | 7 => ("SoundDeskModel", "many", "I", false)
  | 8 => ("SoundDeskModel", "line", "[I", true)
  | 9 => ("SoundDeskModel", "word", "[I", true)
  | 10 => ("SoundDeskModel", "size", "I", false)
  | 11 => ("SoundDeskModel", "made", "[I", true)
  | 12 => ("SoundDeskModel", "makes", "I", false)
  | 13 => ("SoundDeskModel", "changes", "I", false)
  | 14 => ("SoundDeskModel", "some", "[I", true)
  | 15 => ("SoundDeskModel", "someSize", "I", false)
  | 16 => ("SoundDeskModel", "seen", "[J", true)
  | 17 => ("SoundDeskModel", "ledTo", "[J", true)
  | 18 => ("SoundDeskModel", "isExplained", "[Z", true)
  | 19 => ("SoundDeskModel", "own", "[I", true)
  | 20 => ("SoundDeskModel", "places", "[I", true)
  | 21 => ("SoundDeskModel", "bestPlaces", "[I", true)
  | _ => ("SoundDeskModel", "sums", "[I", true)
def tyX11 : Nat → FieldType := fun k => match k with
  | 0 => .array .int
  | 1 => .array .int
  | 2 => .boolean
  | 3 => .array .int
  | 4 => .int
  | 5 => .int
  | 6 => .array .int
  | 7 => .int
  | 8 => .array .int
  | 9 => .array .int
  | 10 => .int
  | 11 => .array .int
  | 12 => .int
  | 13 => .int
  | 14 => .array .int
  | 15 => .int
  | 16 => .array .long
  | 17 => .array .long
  | 18 => .array .boolean
  | 19 => .array .int
  | 20 => .array .int
  | 21 => .array .int
  | _ => .array .int
abbrev wsX110 : List Cond := u_ws RX11 TX11 23
theorem nmX11 : ∀ a, a < 23 → ∀ b, b < 23 → a ≠ b → (TX11 a).2.1 ≠ (TX11 b).2.1 := by decide +kernel
theorem tyX11_ok : ∀ k, k < 23 → parseFieldDescriptor (TX11 k).2.2.1 = some (tyX11 k) := by decide +kernel
abbrev cX11_init : ByteArray := prog_13_method_1_code
def yX11_init : MethodName := ⟨RX11, "<init>", "()V"⟩
abbrev cX11_finding : ByteArray := prog_13_method_2_code
def yX11_finding : MethodName := ⟨RX11, "finding", "(I)I"⟩
abbrev cX11_in : ByteArray := prog_13_method_3_code
def yX11_in : MethodName := ⟨RX11, "in", "(III)Z"⟩
abbrev cX11_isSound : ByteArray := prog_13_method_4_code
def yX11_isSound : MethodName := ⟨RX11, "isSound", "(I)Z"⟩
abbrev cX11_isLaw : ByteArray := prog_13_method_5_code
def yX11_isLaw : MethodName := ⟨RX11, "isLaw", "(I)Z"⟩
abbrev cX11_isTongue : ByteArray := prog_13_method_6_code
def yX11_isTongue : MethodName := ⟨RX11, "isTongue", "(I)Z"⟩
abbrev cX11_isMeaning : ByteArray := prog_13_method_7_code
def yX11_isMeaning : MethodName := ⟨RX11, "isMeaning", "(I)Z"⟩
abbrev cX11_sound : ByteArray := prog_13_method_8_code
def yX11_sound : MethodName := ⟨RX11, "sound", "(III)I"⟩
abbrev cX11_mark : ByteArray := prog_13_method_9_code
def yX11_mark : MethodName := ⟨RX11, "mark", "(II)I"⟩
abbrev cX11_isOf : ByteArray := prog_13_method_10_code
def yX11_isOf : MethodName := ⟨RX11, "isOf", "(II)Z"⟩
abbrev cX11_as : ByteArray := prog_13_method_11_code
def yX11_as : MethodName := ⟨RX11, "as", "(II)I"⟩
abbrev cX11_law : ByteArray := prog_13_method_12_code
def yX11_law : MethodName := ⟨RX11, "law", "(I)I"⟩
abbrev cX11_set : ByteArray := prog_13_method_13_code
def yX11_set : MethodName := ⟨RX11, "set", "(IIIII)I"⟩
abbrev cX11_becomes : ByteArray := prog_13_method_14_code
def yX11_becomes : MethodName := ⟨RX11, "becomes", "(III)I"⟩
abbrev cX11_tongue : ByteArray := prog_13_method_15_code
def yX11_tongue : MethodName := ⟨RX11, "tongue", "(I)I"⟩
abbrev cX11_give : ByteArray := prog_13_method_16_code
def yX11_give : MethodName := ⟨RX11, "give", "(II)I"⟩
abbrev cX11_hasTwo : ByteArray := prog_13_method_17_code
def yX11_hasTwo : MethodName := ⟨RX11, "hasTwo", "(II)Z"⟩
abbrev cX11_swap : ByteArray := prog_13_method_18_code
def yX11_swap : MethodName := ⟨RX11, "swap", "(II)I"⟩
abbrev cX11_findLaws : ByteArray := prog_13_method_19_code
def yX11_findLaws : MethodName := ⟨RX11, "findLaws", "(I)V"⟩
abbrev cX11_laws : ByteArray := prog_13_method_20_code
def yX11_laws : MethodName := ⟨RX11, "laws", "(I)I"⟩
abbrev cX11_lawAt : ByteArray := prog_13_method_21_code
def yX11_lawAt : MethodName := ⟨RX11, "lawAt", "(II)I"⟩
abbrev cX11_say : ByteArray := prog_13_method_22_code
def yX11_say : MethodName := ⟨RX11, "say", "(I)I"⟩
abbrev cX11_hush : ByteArray := prog_13_method_23_code
def yX11_hush : MethodName := ⟨RX11, "hush", "()I"⟩
abbrev cX11_result : ByteArray := prog_13_method_24_code
def yX11_result : MethodName := ⟨RX11, "result", "(I)I"⟩
abbrev cX11_fitsSet : ByteArray := prog_13_method_25_code
def yX11_fitsSet : MethodName := ⟨RX11, "fitsSet", "(III)Z"⟩
abbrev cX11_fits : ByteArray := prog_13_method_26_code
def yX11_fits : MethodName := ⟨RX11, "fits", "(IIII)Z"⟩
abbrev cX11_make : ByteArray := prog_13_method_27_code
def yX11_make : MethodName := ⟨RX11, "make", "(I)V"⟩
abbrev cX11_goRight : ByteArray := prog_13_method_28_code
def yX11_goRight : MethodName := ⟨RX11, "goRight", "(II)V"⟩
abbrev cX11_goLeft : ByteArray := prog_13_method_29_code
def yX11_goLeft : MethodName := ⟨RX11, "goLeft", "(I)V"⟩
abbrev cX11_go : ByteArray := prog_13_method_30_code
def yX11_go : MethodName := ⟨RX11, "go", "(I)Z"⟩
abbrev cX11_goAll : ByteArray := prog_13_method_31_code
def yX11_goAll : MethodName := ⟨RX11, "goAll", "()Z"⟩
abbrev cX11_takeWord : ByteArray := prog_13_method_32_code
def yX11_takeWord : MethodName := ⟨RX11, "takeWord", "()V"⟩
abbrev cX11_tell : ByteArray := prog_13_method_33_code
def yX11_tell : MethodName := ⟨RX11, "tell", "()I"⟩
abbrev cX11_led : ByteArray := prog_13_method_34_code
def yX11_led : MethodName := ⟨RX11, "led", "(I)I"⟩
abbrev cX11_step : ByteArray := prog_13_method_35_code
def yX11_step : MethodName := ⟨RX11, "step", "(I)I"⟩
abbrev cX11_places : ByteArray := prog_13_method_36_code
def yX11_places : MethodName := ⟨RX11, "places", "(I)I"⟩
abbrev cX11_beginSome : ByteArray := prog_13_method_37_code
def yX11_beginSome : MethodName := ⟨RX11, "beginSome", "()V"⟩
abbrev cX11_nextSome : ByteArray := prog_13_method_38_code
def yX11_nextSome : MethodName := ⟨RX11, "nextSome", "(I)Z"⟩
abbrev cX11_takeSome : ByteArray := prog_13_method_39_code
def yX11_takeSome : MethodName := ⟨RX11, "takeSome", "()V"⟩
abbrev cX11_tellSome : ByteArray := prog_13_method_40_code
def yX11_tellSome : MethodName := ⟨RX11, "tellSome", "()V"⟩
abbrev cX11_code : ByteArray := prog_13_method_41_code
def yX11_code : MethodName := ⟨RX11, "code", "()J"⟩
abbrev cX11_codeOf : ByteArray := prog_13_method_42_code
def yX11_codeOf : MethodName := ⟨RX11, "codeOf", "(II)J"⟩
abbrev cX11_back : ByteArray := prog_13_method_43_code
def yX11_back : MethodName := ⟨RX11, "back", "(II)I"⟩
abbrev cX11_differ : ByteArray := prog_13_method_44_code
def yX11_differ : MethodName := ⟨RX11, "differ", "(III)I"⟩
abbrev cX11_loses : ByteArray := prog_13_method_45_code
def yX11_loses : MethodName := ⟨RX11, "loses", "(II)I"⟩
abbrev cX11_takeTwo : ByteArray := prog_13_method_46_code
def yX11_takeTwo : MethodName := ⟨RX11, "takeTwo", "(II)V"⟩
abbrev cX11_stand : ByteArray := prog_13_method_47_code
def yX11_stand : MethodName := ⟨RX11, "stand", "(III)I"⟩
abbrev cX11_meaning : ByteArray := prog_13_method_48_code
def yX11_meaning : MethodName := ⟨RX11, "meaning", "()I"⟩
abbrev cX11_formAt : ByteArray := prog_13_method_49_code
def yX11_formAt : MethodName := ⟨RX11, "formAt", "(II)I"⟩
abbrev cX11_formSize : ByteArray := prog_13_method_50_code
def yX11_formSize : MethodName := ⟨RX11, "formSize", "(II)I"⟩
abbrev cX11_formsOf : ByteArray := prog_13_method_51_code
def yX11_formsOf : MethodName := ⟨RX11, "formsOf", "(I)I"⟩
abbrev cX11_form : ByteArray := prog_13_method_52_code
def yX11_form : MethodName := ⟨RX11, "form", "(II)I"⟩
abbrev cX11_leadAll : ByteArray := prog_13_method_53_code
def yX11_leadAll : MethodName := ⟨RX11, "leadAll", "()V"⟩
abbrev cX11_hits : ByteArray := prog_13_method_54_code
def yX11_hits : MethodName := ⟨RX11, "hits", "(I)I"⟩
abbrev cX11_isRoot : ByteArray := prog_13_method_55_code
def yX11_isRoot : MethodName := ⟨RX11, "isRoot", "(I)Z"⟩
abbrev cX11_roots : ByteArray := prog_13_method_56_code
def yX11_roots : MethodName := ⟨RX11, "roots", "(II)I"⟩
abbrev cX11_some : ByteArray := prog_13_method_57_code
def yX11_some : MethodName := ⟨RX11, "some", "(II)I"⟩
abbrev cX11_explained : ByteArray := prog_13_method_58_code
def yX11_explained : MethodName := ⟨RX11, "explained", "(I)I"⟩
abbrev cX11_explain : ByteArray := prog_13_method_59_code
def yX11_explain : MethodName := ⟨RX11, "explain", "(I)I"⟩
abbrev cX11_takeOwn : ByteArray := prog_13_method_60_code
def yX11_takeOwn : MethodName := ⟨RX11, "takeOwn", "(I)V"⟩
abbrev cX11_putOwn : ByteArray := prog_13_method_61_code
def yX11_putOwn : MethodName := ⟨RX11, "putOwn", "(I[II)V"⟩
abbrev cX11_nextOrder : ByteArray := prog_13_method_62_code
def yX11_nextOrder : MethodName := ⟨RX11, "nextOrder", "(I)Z"⟩
abbrev cX11_swapPlaces : ByteArray := prog_13_method_63_code
def yX11_swapPlaces : MethodName := ⟨RX11, "swapPlaces", "(II)V"⟩
abbrev cX11_order : ByteArray := prog_13_method_64_code
def yX11_order : MethodName := ⟨RX11, "order", "(II)I"⟩
abbrev cX11_few : ByteArray := prog_13_method_65_code
def yX11_few : MethodName := ⟨RX11, "few", "(II)I"⟩
abbrev cX11_takeBack : ByteArray := prog_13_method_66_code
def yX11_takeBack : MethodName := ⟨RX11, "takeBack", "(II)V"⟩
abbrev cX11_bits : ByteArray := prog_13_method_67_code
def yX11_bits : MethodName := ⟨RX11, "bits", "(I)I"⟩
abbrev cX11_cost : ByteArray := prog_13_method_68_code
def yX11_cost : MethodName := ⟨RX11, "cost", "(I)I"⟩
abbrev cX11_costOf : ByteArray := prog_13_method_69_code
def yX11_costOf : MethodName := ⟨RX11, "costOf", "(II)I"⟩
abbrev cX11_lesser : ByteArray := prog_13_method_70_code
def yX11_lesser : MethodName := ⟨RX11, "lesser", "(II)I"⟩
abbrev cX11_match : ByteArray := prog_13_method_71_code
def yX11_match : MethodName := ⟨RX11, "match", "(III)I"⟩
abbrev cX11_put : ByteArray := prog_13_method_72_code
def yX11_put : MethodName := ⟨RX11, "put", "(I)I"⟩
abbrev cX11_isTold : ByteArray := prog_13_method_73_code
def yX11_isTold : MethodName := ⟨RX11, "isTold", "(II)Z"⟩
abbrev cX11_check : ByteArray := prog_13_method_74_code
def yX11_check : MethodName := ⟨RX11, "check", "(I)I"⟩
abbrev cX11_keep : ByteArray := prog_13_method_75_code
def yX11_keep : MethodName := ⟨RX11, "keep", "()I"⟩
abbrev cX11_again : ByteArray := prog_13_method_76_code
def yX11_again : MethodName := ⟨RX11, "again", "()I"⟩
abbrev cX11_told : ByteArray := prog_13_method_77_code
def yX11_told : MethodName := ⟨RX11, "told", "(I)I"⟩
def RJ6 : String := "java/lang/Integer"
def TJ6 : u_T := fun k => match k with
  | _ => ("", "", "", false)
def tyJ6 : Nat → FieldType := fun k => match k with
  | _ => .int
abbrev wsJ60 : List Cond := u_ws RJ6 TJ6 0
theorem nmJ6 : ∀ a, a < 0 → ∀ b, b < 0 → a ≠ b → (TJ6 a).2.1 ≠ (TJ6 b).2.1 := by decide +kernel
theorem tyJ6_ok : ∀ k, k < 0 → parseFieldDescriptor (TJ6 k).2.2.1 = some (tyJ6 k) := by decide +kernel
abbrev cJ6_bitCount_0f7a4 : ByteArray := prog_14_method_49_code
def yJ6_bitCount_0f7a4 : MethodName := ⟨RJ6, "bitCount", "(I)I"⟩
def RJ9 : String := "java/lang/Math"
def TJ9 : u_T := fun k => match k with
  | _ => ("", "", "", false)
def tyJ9 : Nat → FieldType := fun k => match k with
  | _ => .int
abbrev wsJ90 : List Cond := u_ws RJ9 TJ9 0
theorem nmJ9 : ∀ a, a < 0 → ∀ b, b < 0 → a ≠ b → (TJ9 a).2.1 ≠ (TJ9 b).2.1 := by decide +kernel
theorem tyJ9_ok : ∀ k, k < 0 → parseFieldDescriptor (TJ9 k).2.2.1 = some (tyJ9 k) := by decide +kernel
abbrev cJ9_min_7cf53 : ByteArray := prog_15_method_69_code
def yJ9_min_7cf53 : MethodName := ⟨RJ9, "min", "(II)I"⟩
def RJ10 : String := "java/lang/System"
def TJ10 : u_T := fun k => match k with
  | _ => ("", "", "", false)
def tyJ10 : Nat → FieldType := fun k => match k with
  | _ => .int
abbrev wsJ100 : List Cond := u_ws RJ10 TJ10 0
theorem nmJ10 : ∀ a, a < 0 → ∀ b, b < 0 → a ≠ b → (TJ10 a).2.1 ≠ (TJ10 b).2.1 := by decide +kernel
theorem tyJ10_ok : ∀ k, k < 0 → parseFieldDescriptor (TJ10 k).2.2.1 = some (tyJ10 k) := by decide +kernel
def RJ7 : String := "java/util/Arrays"
def TJ7 : u_T := fun k => match k with
  | _ => ("", "", "", false)
def tyJ7 : Nat → FieldType := fun k => match k with
  | _ => .int
abbrev wsJ70 : List Cond := u_ws RJ7 TJ7 0
theorem nmJ7 : ∀ a, a < 0 → ∀ b, b < 0 → a ≠ b → (TJ7 a).2.1 ≠ (TJ7 b).2.1 := by decide +kernel
theorem tyJ7_ok : ∀ k, k < 0 → parseFieldDescriptor (TJ7 k).2.2.1 = some (tyJ7 k) := by decide +kernel
abbrev cJ7_fill_d0a16 : ByteArray := prog_17_method_101_code
def yJ7_fill_d0a16 : MethodName := ⟨RJ7, "fill", "([JJ)V"⟩
def RL : String := "SoundDeskLaw"
abbrev cL_law : ByteArray := code
def yL_law : MethodName := ⟨RL, "law", "([I)Z"⟩
