/-- the words that hold on through calls -/
def lw_ws : List Cond := lw_tbl.filter goodWord
abbrev classes : List vw_C := [(RX0, TX0, 10), (RX1, TX1, 9), (RX2, TX2, 2), (RX3, TX3, 3), (RX4, TX4, 2), (RX5, TX5, 5), (RX6, TX6, 8), (RX7, TX7, 4), (RX8, TX8, 1), (RX10, TX10, 7), (RX11, TX11, 23)]
theorem i_X0 : ∀ w ∈ u_ws RX0 TX0 10, w ∈ lw_ws := by decide +kernel
theorem i_X1 : ∀ w ∈ u_ws RX1 TX1 9, w ∈ lw_ws := by decide +kernel
theorem i_X2 : ∀ w ∈ u_ws RX2 TX2 2, w ∈ lw_ws := by decide +kernel
theorem i_X3 : ∀ w ∈ u_ws RX3 TX3 3, w ∈ lw_ws := by decide +kernel
theorem i_X4 : ∀ w ∈ u_ws RX4 TX4 2, w ∈ lw_ws := by decide +kernel
theorem i_X5 : ∀ w ∈ u_ws RX5 TX5 5, w ∈ lw_ws := by decide +kernel
theorem i_X6 : ∀ w ∈ u_ws RX6 TX6 8, w ∈ lw_ws := by decide +kernel
theorem i_X7 : ∀ w ∈ u_ws RX7 TX7 4, w ∈ lw_ws := by decide +kernel
theorem i_X8 : ∀ w ∈ u_ws RX8 TX8 1, w ∈ lw_ws := by decide +kernel
theorem i_X10 : ∀ w ∈ u_ws RX10 TX10 7, w ∈ lw_ws := by decide +kernel
theorem i_X11 : ∀ w ∈ u_ws RX11 TX11 23, w ∈ lw_ws := by decide +kernel
theorem qx_1 {w : Cond} (h : w ∈ tables_1_1) (g : goodWord w = true) : w ∈ lw_ws := List.mem_filter.mpr ⟨List.mem_append_right _ (List.mem_append_left _ h), g⟩
theorem qx_2 {w : Cond} (h : w ∈ tables_1_2) (g : goodWord w = true) : w ∈ lw_ws := List.mem_filter.mpr ⟨List.mem_append_right _ (List.mem_append_right _ (List.mem_append_left _ h)), g⟩
theorem qx_3 {w : Cond} (h : w ∈ tables_1_3) (g : goodWord w = true) : w ∈ lw_ws := List.mem_filter.mpr ⟨List.mem_append_right _ (List.mem_append_right _ (List.mem_append_right _ (List.mem_append_left _ h))), g⟩
theorem qx_4 {w : Cond} (h : w ∈ tables_1_4) (g : goodWord w = true) : w ∈ lw_ws := List.mem_filter.mpr ⟨List.mem_append_right _ (List.mem_append_right _ (List.mem_append_right _ (List.mem_append_right _ (List.mem_append_left _ h)))), g⟩
theorem qx_5 {w : Cond} (h : w ∈ tables_1_5) (g : goodWord w = true) : w ∈ lw_ws := List.mem_filter.mpr ⟨List.mem_append_right _ (List.mem_append_right _ (List.mem_append_right _ (List.mem_append_right _ (List.mem_append_right _ h)))), g⟩
theorem qz_1 {w : Cond} (h : w ∈ tables_1_1) : w ∈ lw_tbl := List.mem_append_right _ (List.mem_append_left _ h)
theorem qz_2 {w : Cond} (h : w ∈ tables_1_2) : w ∈ lw_tbl := List.mem_append_right _ (List.mem_append_right _ (List.mem_append_left _ h))
theorem qz_3 {w : Cond} (h : w ∈ tables_1_3) : w ∈ lw_tbl := List.mem_append_right _ (List.mem_append_right _ (List.mem_append_right _ (List.mem_append_left _ h)))
theorem qz_4 {w : Cond} (h : w ∈ tables_1_4) : w ∈ lw_tbl := List.mem_append_right _ (List.mem_append_right _ (List.mem_append_right _ (List.mem_append_right _ (List.mem_append_left _ h))))
theorem qz_5 {w : Cond} (h : w ∈ tables_1_5) : w ∈ lw_tbl := List.mem_append_right _ (List.mem_append_right _ (List.mem_append_right _ (List.mem_append_right _ (List.mem_append_right _ h))))
theorem qg_all : ∀ w ∈ lw_ws, goodWord w = true := fun w h => (List.mem_filter.mp h).2
theorem qg_tbl : ∀ w ∈ lw_ws, w ∈ lw_tbl := fun w h => (List.mem_filter.mp h).1
theorem qs_0 : Cond.selects "SoundDesk" yX10_found yX10_found ∈ lw_ws := List.mem_filter.mpr ⟨List.mem_append_left _ (List.mem_of_getElem? (i := 0) rfl), rfl⟩
theorem qs_1 : Cond.selects "SoundDesk$Laws" yX1_fittingBits yX1_fittingBits ∈ lw_ws := List.mem_filter.mpr ⟨List.mem_append_left _ (List.mem_of_getElem? (i := 1) rfl), rfl⟩
theorem qs_2 : Cond.selects "SoundDesk$Laws" yX1_sweep yX1_sweep ∈ lw_ws := List.mem_filter.mpr ⟨List.mem_append_left _ (List.mem_of_getElem? (i := 2) rfl), rfl⟩
theorem qs_3 : Cond.selects "SoundDesk$Laws" yX1_addChanged yX1_addChanged ∈ lw_ws := List.mem_filter.mpr ⟨List.mem_append_left _ (List.mem_of_getElem? (i := 3) rfl), rfl⟩
theorem qs_4 : Cond.selects "SoundDesk" yX10_shown yX10_shown ∈ lw_ws := List.mem_filter.mpr ⟨List.mem_append_left _ (List.mem_of_getElem? (i := 4) rfl), rfl⟩
theorem qs_5 : Cond.selects "SoundDesk$Finder" yX0_showFirst yX0_showFirst ∈ lw_ws := List.mem_filter.mpr ⟨List.mem_append_left _ (List.mem_of_getElem? (i := 5) rfl), rfl⟩
theorem qs_6 : Cond.selects "SoundDesk$Finder" yX0_leadByAll yX0_leadByAll ∈ lw_ws := List.mem_filter.mpr ⟨List.mem_append_left _ (List.mem_of_getElem? (i := 6) rfl), rfl⟩
theorem qs_7 : Cond.selects "SoundDesk$Finder" yX0_noteStandingLaws yX0_noteStandingLaws ∈ lw_ws := List.mem_filter.mpr ⟨List.mem_append_left _ (List.mem_of_getElem? (i := 7) rfl), rfl⟩
theorem qs_8 : Cond.selects "SoundDesk$Finder" yX0_seat yX0_seat ∈ lw_ws := List.mem_filter.mpr ⟨List.mem_append_left _ (List.mem_of_getElem? (i := 8) rfl), rfl⟩
theorem qs_9 : Cond.selects "SoundDesk$Finder" yX0_nextSeats yX0_nextSeats ∈ lw_ws := List.mem_filter.mpr ⟨List.mem_append_left _ (List.mem_of_getElem? (i := 9) rfl), rfl⟩
theorem qs_10 : Cond.selects "SoundDesk$Finder" yX0_exchangeSeats yX0_exchangeSeats ∈ lw_ws := List.mem_filter.mpr ⟨List.mem_append_left _ (List.mem_of_getElem? (i := 10) rfl), rfl⟩
theorem qs_11 : Cond.selects "SoundDesk$Finder" yX0_choose yX0_choose ∈ lw_ws := List.mem_filter.mpr ⟨List.mem_append_left _ (List.mem_of_getElem? (i := 11) rfl), rfl⟩
theorem qs_12 : Cond.selects "SoundDeskModel" yX11_finding yX11_finding ∈ lw_ws := List.mem_filter.mpr ⟨List.mem_append_left _ (List.mem_of_getElem? (i := 12) rfl), rfl⟩
theorem qs_13 : Cond.selects "SoundDeskModel" yX11_isSound yX11_isSound ∈ lw_ws := List.mem_filter.mpr ⟨List.mem_append_left _ (List.mem_of_getElem? (i := 13) rfl), rfl⟩
theorem qs_14 : Cond.selects "SoundDeskModel" yX11_isOf yX11_isOf ∈ lw_ws := List.mem_filter.mpr ⟨List.mem_append_left _ (List.mem_of_getElem? (i := 14) rfl), rfl⟩
theorem qs_15 : Cond.selects "SoundDeskModel" yX11_isLaw yX11_isLaw ∈ lw_ws := List.mem_filter.mpr ⟨List.mem_append_left _ (List.mem_of_getElem? (i := 15) rfl), rfl⟩
theorem qs_16 : Cond.selects "SoundDeskModel" yX11_isTongue yX11_isTongue ∈ lw_ws := List.mem_filter.mpr ⟨List.mem_append_left _ (List.mem_of_getElem? (i := 16) rfl), rfl⟩
theorem qs_17 : Cond.selects "SoundDeskModel" yX11_hasTwo yX11_hasTwo ∈ lw_ws := List.mem_filter.mpr ⟨List.mem_append_left _ (List.mem_of_getElem? (i := 17) rfl), rfl⟩
theorem qs_18 : Cond.selects "SoundDeskModel" yX11_findLaws yX11_findLaws ∈ lw_ws := List.mem_filter.mpr ⟨List.mem_append_left _ (List.mem_of_getElem? (i := 18) rfl), rfl⟩
theorem qs_19 : Cond.selects "SoundDeskModel" yX11_takeWord yX11_takeWord ∈ lw_ws := List.mem_filter.mpr ⟨List.mem_append_left _ (List.mem_of_getElem? (i := 19) rfl), rfl⟩
theorem qs_20 : Cond.selects "SoundDeskModel" yX11_goAll yX11_goAll ∈ lw_ws := List.mem_filter.mpr ⟨List.mem_append_left _ (List.mem_of_getElem? (i := 20) rfl), rfl⟩
theorem qs_21 : Cond.selects "SoundDeskModel" yX11_go yX11_go ∈ lw_ws := List.mem_filter.mpr ⟨List.mem_append_left _ (List.mem_of_getElem? (i := 21) rfl), rfl⟩
theorem qs_22 : Cond.selects "SoundDeskModel" yX11_goLeft yX11_goLeft ∈ lw_ws := List.mem_filter.mpr ⟨List.mem_append_left _ (List.mem_of_getElem? (i := 22) rfl), rfl⟩
theorem qs_23 : Cond.selects "SoundDeskModel" yX11_fits yX11_fits ∈ lw_ws := List.mem_filter.mpr ⟨List.mem_append_left _ (List.mem_of_getElem? (i := 23) rfl), rfl⟩
theorem qs_24 : Cond.selects "SoundDeskModel" yX11_fitsSet yX11_fitsSet ∈ lw_ws := List.mem_filter.mpr ⟨List.mem_append_left _ (List.mem_of_getElem? (i := 24) rfl), rfl⟩
theorem qs_25 : Cond.selects "SoundDeskModel" yX11_make yX11_make ∈ lw_ws := List.mem_filter.mpr ⟨List.mem_append_left _ (List.mem_of_getElem? (i := 25) rfl), rfl⟩
theorem qs_26 : Cond.selects "SoundDeskModel" yX11_goRight yX11_goRight ∈ lw_ws := List.mem_filter.mpr ⟨List.mem_append_left _ (List.mem_of_getElem? (i := 26) rfl), rfl⟩
theorem qs_27 : Cond.selects "SoundDeskModel" yX11_tell yX11_tell ∈ lw_ws := List.mem_filter.mpr ⟨List.mem_append_left _ (List.mem_of_getElem? (i := 27) rfl), rfl⟩
theorem qs_28 : Cond.selects "SoundDeskModel" yX11_codeOf yX11_codeOf ∈ lw_ws := List.mem_filter.mpr ⟨List.mem_append_left _ (List.mem_of_getElem? (i := 28) rfl), rfl⟩
theorem qs_29 : Cond.selects "SoundDeskModel" yX11_beginSome yX11_beginSome ∈ lw_ws := List.mem_filter.mpr ⟨List.mem_append_left _ (List.mem_of_getElem? (i := 29) rfl), rfl⟩
theorem qs_30 : Cond.selects "SoundDeskModel" yX11_takeSome yX11_takeSome ∈ lw_ws := List.mem_filter.mpr ⟨List.mem_append_left _ (List.mem_of_getElem? (i := 30) rfl), rfl⟩
theorem qs_31 : Cond.selects "SoundDeskModel" yX11_code yX11_code ∈ lw_ws := List.mem_filter.mpr ⟨List.mem_append_left _ (List.mem_of_getElem? (i := 31) rfl), rfl⟩
theorem qs_32 : Cond.selects "SoundDeskModel" yX11_tellSome yX11_tellSome ∈ lw_ws := List.mem_filter.mpr ⟨List.mem_append_left _ (List.mem_of_getElem? (i := 32) rfl), rfl⟩
theorem qs_33 : Cond.selects "SoundDeskModel" yX11_nextSome yX11_nextSome ∈ lw_ws := List.mem_filter.mpr ⟨List.mem_append_left _ (List.mem_of_getElem? (i := 33) rfl), rfl⟩
theorem qs_34 : Cond.selects "SoundDeskModel" yX11_takeTwo yX11_takeTwo ∈ lw_ws := List.mem_filter.mpr ⟨List.mem_append_left _ (List.mem_of_getElem? (i := 34) rfl), rfl⟩
theorem qs_35 : Cond.selects "SoundDeskModel" yX11_isMeaning yX11_isMeaning ∈ lw_ws := List.mem_filter.mpr ⟨List.mem_append_left _ (List.mem_of_getElem? (i := 35) rfl), rfl⟩
theorem qs_36 : Cond.selects "SoundDeskModel" yX11_formAt yX11_formAt ∈ lw_ws := List.mem_filter.mpr ⟨List.mem_append_left _ (List.mem_of_getElem? (i := 36) rfl), rfl⟩
theorem qs_37 : Cond.selects "SoundDeskModel" yX11_formsOf yX11_formsOf ∈ lw_ws := List.mem_filter.mpr ⟨List.mem_append_left _ (List.mem_of_getElem? (i := 37) rfl), rfl⟩
theorem qs_38 : Cond.selects "SoundDeskModel" yX11_formSize yX11_formSize ∈ lw_ws := List.mem_filter.mpr ⟨List.mem_append_left _ (List.mem_of_getElem? (i := 38) rfl), rfl⟩
theorem qs_39 : Cond.selects "SoundDeskModel" yX11_leadAll yX11_leadAll ∈ lw_ws := List.mem_filter.mpr ⟨List.mem_append_left _ (List.mem_of_getElem? (i := 39) rfl), rfl⟩
theorem qs_40 : Cond.selects "SoundDeskModel" yX11_isRoot yX11_isRoot ∈ lw_ws := List.mem_filter.mpr ⟨List.mem_append_left _ (List.mem_of_getElem? (i := 40) rfl), rfl⟩
theorem qs_41 : Cond.selects "SoundDeskModel" yX11_hits yX11_hits ∈ lw_ws := List.mem_filter.mpr ⟨List.mem_append_left _ (List.mem_of_getElem? (i := 41) rfl), rfl⟩
theorem qs_42 : Cond.selects "SoundDeskModel" yX11_explained yX11_explained ∈ lw_ws := List.mem_filter.mpr ⟨List.mem_append_left _ (List.mem_of_getElem? (i := 42) rfl), rfl⟩
theorem qs_43 : Cond.selects "SoundDeskModel" yX11_takeOwn yX11_takeOwn ∈ lw_ws := List.mem_filter.mpr ⟨List.mem_append_left _ (List.mem_of_getElem? (i := 43) rfl), rfl⟩
theorem qs_44 : Cond.selects "SoundDeskModel" yX11_putOwn yX11_putOwn ∈ lw_ws := List.mem_filter.mpr ⟨List.mem_append_left _ (List.mem_of_getElem? (i := 44) rfl), rfl⟩
theorem qs_45 : Cond.selects "SoundDeskModel" yX11_nextOrder yX11_nextOrder ∈ lw_ws := List.mem_filter.mpr ⟨List.mem_append_left _ (List.mem_of_getElem? (i := 45) rfl), rfl⟩
theorem qs_46 : Cond.selects "SoundDeskModel" yX11_swapPlaces yX11_swapPlaces ∈ lw_ws := List.mem_filter.mpr ⟨List.mem_append_left _ (List.mem_of_getElem? (i := 46) rfl), rfl⟩
theorem qs_47 : Cond.selects "SoundDeskModel" yX11_takeBack yX11_takeBack ∈ lw_ws := List.mem_filter.mpr ⟨List.mem_append_left _ (List.mem_of_getElem? (i := 47) rfl), rfl⟩
theorem qs_48 : Cond.selects "SoundDeskModel" yX11_costOf yX11_costOf ∈ lw_ws := List.mem_filter.mpr ⟨List.mem_append_left _ (List.mem_of_getElem? (i := 48) rfl), rfl⟩
theorem qs_49 : Cond.selects "SoundDeskModel" yX11_isTold yX11_isTold ∈ lw_ws := List.mem_filter.mpr ⟨List.mem_append_left _ (List.mem_of_getElem? (i := 49) rfl), rfl⟩
theorem q_1_0 : Cond.initialized "SoundDeskLaw" ∈ lw_ws := qx_1 (List.mem_of_getElem? (i := 0) rfl) rfl
theorem q_1_1 : Cond.initialized "SoundDesk" ∈ lw_ws := qx_1 (List.mem_of_getElem? (i := 1) rfl) rfl
theorem q_1_2 : Cond.initialized "SoundDesk$Finder" ∈ lw_ws := qx_1 (List.mem_of_getElem? (i := 2) rfl) rfl
theorem q_1_3 : Cond.initialized "SoundDesk$State" ∈ lw_ws := qx_1 (List.mem_of_getElem? (i := 3) rfl) rfl
theorem q_1_4 : Cond.initialized "SoundDesk$Sounds" ∈ lw_ws := qx_1 (List.mem_of_getElem? (i := 4) rfl) rfl
theorem q_1_5 : Cond.initialized "SoundDesk$Laws" ∈ lw_ws := qx_1 (List.mem_of_getElem? (i := 5) rfl) rfl
theorem q_1_6 : Cond.initialized "SoundDesk$Tongues" ∈ lw_ws := qx_1 (List.mem_of_getElem? (i := 6) rfl) rfl
theorem q_1_7 : Cond.initialized "SoundDesk$Meanings" ∈ lw_ws := qx_1 (List.mem_of_getElem? (i := 7) rfl) rfl
theorem q_1_8 : Cond.initialized "SoundDesk$Path" ∈ lw_ws := qx_1 (List.mem_of_getElem? (i := 8) rfl) rfl
theorem q_1_9 : Cond.initialized "SoundDesk$Row" ∈ lw_ws := qx_1 (List.mem_of_getElem? (i := 9) rfl) rfl
theorem q_1_10 : Cond.initialized "SoundDesk$WordSet" ∈ lw_ws := qx_1 (List.mem_of_getElem? (i := 10) rfl) rfl
theorem q_1_11 : Cond.initialized "SoundDeskModel" ∈ lw_ws := qx_1 (List.mem_of_getElem? (i := 11) rfl) rfl
theorem q_1_12 : Cond.initialized "java/lang/System" ∈ lw_ws := qx_1 (List.mem_of_getElem? (i := 12) rfl) rfl
theorem q_1_13 : Cond.initialized "SoundDesk$Words" ∈ lw_ws := qx_1 (List.mem_of_getElem? (i := 13) rfl) rfl
theorem q_1_14 : Cond.initialized "java/util/Arrays" ∈ lw_ws := qx_1 (List.mem_of_getElem? (i := 14) rfl) rfl
theorem q_1_15 : Cond.initialized "java/lang/Integer" ∈ lw_ws := qx_1 (List.mem_of_getElem? (i := 15) rfl) rfl
theorem q_1_16 : Cond.initialized "java/lang/Math" ∈ lw_ws := qx_1 (List.mem_of_getElem? (i := 16) rfl) rfl
theorem q_1_17 : Cond.classLink "SoundDeskLaw" 7 "SoundDesk" ∈ lw_ws := qx_1 (List.mem_of_getElem? (i := 17) rfl) rfl
theorem q_1_18 : Cond.instantiable "SoundDesk" 7 ∈ lw_ws := qx_1 (List.mem_of_getElem? (i := 18) rfl) rfl
theorem q_1_19 : Cond.methodLink "SoundDeskLaw" 9 yX10_init ∈ lw_ws := qx_1 (List.mem_of_getElem? (i := 19) rfl) rfl
theorem q_1_20 : Cond.instanceMethod yX10_init ∈ lw_ws := qx_1 (List.mem_of_getElem? (i := 20) rfl) rfl
theorem q_1_21 : Cond.code yX10_init (prog_1_method_1_code) 1 (Option.none : Option FieldType) ∈ lw_ws := qx_1 (List.mem_of_getElem? (i := 21) rfl) rfl
theorem q_1_22 : Cond.methodLink "SoundDesk" 1 objectInit ∈ lw_ws := qx_1 (List.mem_of_getElem? (i := 22) rfl) rfl
theorem q_1_23 : Cond.instanceMethod objectInit ∈ lw_ws := qx_1 (List.mem_of_getElem? (i := 23) rfl) rfl
theorem q_1_24 : Cond.code objectInit (object_method_1_code) 1 (Option.none : Option FieldType) ∈ lw_ws := qx_1 (List.mem_of_getElem? (i := 24) rfl) rfl
theorem q_1_25 : Cond.classLink "SoundDesk" 7 "SoundDesk$Finder" ∈ lw_ws := qx_1 (List.mem_of_getElem? (i := 25) rfl) rfl
theorem q_1_26 : Cond.instantiable "SoundDesk$Finder" 10 ∈ lw_ws := qx_1 (List.mem_of_getElem? (i := 26) rfl) rfl
theorem qt_1_27 : Cond.methodLinkNest "SoundDesk" 9 yX0_init "SoundDesk" ∈ lw_tbl := qz_1 (List.mem_of_getElem? (i := 27) rfl)
theorem q_1_28 : Cond.instanceMethod yX0_init ∈ lw_ws := qx_1 (List.mem_of_getElem? (i := 28) rfl) rfl
theorem q_1_29 : Cond.code yX0_init (prog_2_method_1_code) 1 (Option.none : Option FieldType) ∈ lw_ws := qx_1 (List.mem_of_getElem? (i := 29) rfl) rfl
theorem q_1_30 : Cond.methodLink "SoundDesk$Finder" 3 objectInit ∈ lw_ws := qx_1 (List.mem_of_getElem? (i := 30) rfl) rfl
theorem q_1_31 : Cond.classLink "SoundDesk$Finder" 9 "SoundDesk$State" ∈ lw_ws := qx_1 (List.mem_of_getElem? (i := 31) rfl) rfl
theorem q_1_32 : Cond.instantiable "SoundDesk$State" 8 ∈ lw_ws := qx_1 (List.mem_of_getElem? (i := 32) rfl) rfl
theorem qt_1_33 : Cond.methodLinkNest "SoundDesk$Finder" 11 yX6_init "SoundDesk" ∈ lw_tbl := qz_1 (List.mem_of_getElem? (i := 33) rfl)
theorem q_1_34 : Cond.instanceMethod yX6_init ∈ lw_ws := qx_1 (List.mem_of_getElem? (i := 34) rfl) rfl
theorem q_1_35 : Cond.code yX6_init (prog_8_method_1_code) 1 (Option.none : Option FieldType) ∈ lw_ws := qx_1 (List.mem_of_getElem? (i := 35) rfl) rfl
theorem q_1_36 : Cond.methodLink "SoundDesk$State" 1 objectInit ∈ lw_ws := qx_1 (List.mem_of_getElem? (i := 36) rfl) rfl
theorem q_1_37 : Cond.classLink "SoundDesk$State" 7 "SoundDesk$Sounds" ∈ lw_ws := qx_1 (List.mem_of_getElem? (i := 37) rfl) rfl
theorem q_1_38 : Cond.instantiable "SoundDesk$Sounds" 5 ∈ lw_ws := qx_1 (List.mem_of_getElem? (i := 38) rfl) rfl
theorem qt_1_39 : Cond.methodLinkNest "SoundDesk$State" 9 yX5_init "SoundDesk" ∈ lw_tbl := qz_1 (List.mem_of_getElem? (i := 39) rfl)
theorem q_1_40 : Cond.instanceMethod yX5_init ∈ lw_ws := qx_1 (List.mem_of_getElem? (i := 40) rfl) rfl
theorem q_1_41 : Cond.code yX5_init (prog_7_method_1_code) 1 (Option.none : Option FieldType) ∈ lw_ws := qx_1 (List.mem_of_getElem? (i := 41) rfl) rfl
theorem q_1_42 : Cond.methodLink "SoundDesk$Sounds" 1 objectInit ∈ lw_ws := qx_1 (List.mem_of_getElem? (i := 42) rfl) rfl
theorem q_1_43 : Cond.fieldLink "SoundDesk$Sounds" 7 "SoundDesk$Sounds" "count" "I" ∈ lw_ws := qx_1 (List.mem_of_getElem? (i := 43) rfl) rfl
theorem q_1_44 : Cond.fieldLink "SoundDesk" 62 "SoundDesk$Sounds" "count" "I" ∈ lw_ws := qx_1 (List.mem_of_getElem? (i := 44) rfl) rfl
theorem q_1_45 : Cond.fieldLink "SoundDesk$Finder" 104 "SoundDesk$Sounds" "count" "I" ∈ lw_ws := qx_1 (List.mem_of_getElem? (i := 45) rfl) rfl
theorem q_1_46 : Cond.fieldLink "SoundDesk$Laws" 67 "SoundDesk$Sounds" "count" "I" ∈ lw_ws := qx_1 (List.mem_of_getElem? (i := 46) rfl) rfl
theorem q_1_47 : Cond.fieldLink "SoundDesk$Sounds" 13 "SoundDesk$Sounds" "missingRows" "I" ∈ lw_ws := qx_1 (List.mem_of_getElem? (i := 47) rfl) rfl
theorem q_1_48 : Cond.fieldLink "SoundDesk$Sounds" 16 "SoundDesk$Sounds" "kind" "[I" ∈ lw_ws := qx_1 (List.mem_of_getElem? (i := 48) rfl) rfl
theorem q_1_49 : Cond.fieldLink "SoundDesk$Sounds" 20 "SoundDesk$Sounds" "yes" "[I" ∈ lw_ws := qx_1 (List.mem_of_getElem? (i := 49) rfl) rfl
theorem q_1_50 : Cond.fieldLink "SoundDesk$Sounds" 23 "SoundDesk$Sounds" "no" "[I" ∈ lw_ws := qx_1 (List.mem_of_getElem? (i := 50) rfl) rfl
theorem q_1_62 : Cond.arrayClass (FieldType.int) ∈ lw_ws := qx_1 (List.mem_of_getElem? (i := 62) rfl) rfl
theorem q_1_63 : Cond.classLink "SoundDesk$State" 16 "SoundDesk$Laws" ∈ lw_ws := qx_1 (List.mem_of_getElem? (i := 63) rfl) rfl
theorem q_1_64 : Cond.instantiable "SoundDesk$Laws" 9 ∈ lw_ws := qx_1 (List.mem_of_getElem? (i := 64) rfl) rfl
theorem qt_1_65 : Cond.methodLinkNest "SoundDesk$State" 18 yX1_init "SoundDesk" ∈ lw_tbl := qz_1 (List.mem_of_getElem? (i := 65) rfl)
theorem q_1_66 : Cond.instanceMethod yX1_init ∈ lw_ws := qx_1 (List.mem_of_getElem? (i := 66) rfl) rfl
theorem q_1_67 : Cond.code yX1_init (prog_3_method_1_code) 1 (Option.none : Option FieldType) ∈ lw_ws := qx_1 (List.mem_of_getElem? (i := 67) rfl) rfl
theorem q_1_68 : Cond.methodLink "SoundDesk$Laws" 5 objectInit ∈ lw_ws := qx_1 (List.mem_of_getElem? (i := 68) rfl) rfl
theorem q_1_69 : Cond.fieldLink "SoundDesk$Laws" 11 "SoundDesk$Laws" "count" "I" ∈ lw_ws := qx_1 (List.mem_of_getElem? (i := 69) rfl) rfl
theorem q_1_70 : Cond.fieldLink "SoundDesk" 93 "SoundDesk$Laws" "count" "I" ∈ lw_ws := qx_1 (List.mem_of_getElem? (i := 70) rfl) rfl
theorem q_1_71 : Cond.fieldLink "SoundDesk$Laws" 15 "SoundDesk$Laws" "touched" "I" ∈ lw_ws := qx_1 (List.mem_of_getElem? (i := 71) rfl) rfl
theorem q_1_72 : Cond.fieldLink "SoundDesk$Finder" 98 "SoundDesk$Laws" "touched" "I" ∈ lw_ws := qx_1 (List.mem_of_getElem? (i := 72) rfl) rfl
theorem q_1_73 : Cond.fieldLink "SoundDesk$Laws" 18 "SoundDesk$Laws" "how" "[I" ∈ lw_ws := qx_1 (List.mem_of_getElem? (i := 73) rfl) rfl
theorem q_1_74 : Cond.fieldLink "SoundDesk" 112 "SoundDesk$Laws" "how" "[I" ∈ lw_ws := qx_1 (List.mem_of_getElem? (i := 74) rfl) rfl
theorem q_1_75 : Cond.fieldLink "SoundDesk$Laws" 22 "SoundDesk$Laws" "into" "[I" ∈ lw_ws := qx_1 (List.mem_of_getElem? (i := 75) rfl) rfl
theorem q_1_76 : Cond.fieldLink "SoundDesk" 115 "SoundDesk$Laws" "into" "[I" ∈ lw_ws := qx_1 (List.mem_of_getElem? (i := 76) rfl) rfl
theorem q_1_77 : Cond.fieldLink "SoundDesk$Laws" 25 "SoundDesk$Laws" "kind" "[I" ∈ lw_ws := qx_1 (List.mem_of_getElem? (i := 77) rfl) rfl
theorem q_1_78 : Cond.fieldLink "SoundDesk$Laws" 28 "SoundDesk$Laws" "setKind" "[I" ∈ lw_ws := qx_1 (List.mem_of_getElem? (i := 78) rfl) rfl
theorem q_1_79 : Cond.fieldLink "SoundDesk$Laws" 31 "SoundDesk$Laws" "setYes" "[I" ∈ lw_ws := qx_1 (List.mem_of_getElem? (i := 79) rfl) rfl
theorem q_1_80 : Cond.fieldLink "SoundDesk$Laws" 34 "SoundDesk$Laws" "setNo" "[I" ∈ lw_ws := qx_1 (List.mem_of_getElem? (i := 80) rfl) rfl
theorem q_1_81 : Cond.fieldLink "SoundDesk$Laws" 37 "SoundDesk$Laws" "fitting" "[I" ∈ lw_ws := qx_1 (List.mem_of_getElem? (i := 81) rfl) rfl
theorem q_1_101 : Cond.classLink "SoundDesk$State" 23 "SoundDesk$Tongues" ∈ lw_ws := qx_1 (List.mem_of_getElem? (i := 101) rfl) rfl
theorem q_1_102 : Cond.instantiable "SoundDesk$Tongues" 4 ∈ lw_ws := qx_1 (List.mem_of_getElem? (i := 102) rfl) rfl
theorem qt_1_103 : Cond.methodLinkNest "SoundDesk$State" 25 yX7_init "SoundDesk" ∈ lw_tbl := qz_1 (List.mem_of_getElem? (i := 103) rfl)
theorem q_1_104 : Cond.instanceMethod yX7_init ∈ lw_ws := qx_1 (List.mem_of_getElem? (i := 104) rfl) rfl
theorem q_1_105 : Cond.code yX7_init (prog_9_method_1_code) 1 (Option.none : Option FieldType) ∈ lw_ws := qx_1 (List.mem_of_getElem? (i := 105) rfl) rfl
theorem q_1_106 : Cond.methodLink "SoundDesk$Tongues" 1 objectInit ∈ lw_ws := qx_1 (List.mem_of_getElem? (i := 106) rfl) rfl
theorem q_1_107 : Cond.classLink "SoundDesk$Tongues" 20 "[[I" ∈ lw_ws := qx_1 (List.mem_of_getElem? (i := 107) rfl) rfl
theorem qt_1_108 : Cond.arrayOver (FieldType.array FieldType.int) ∈ lw_tbl := qz_1 (List.mem_of_getElem? (i := 108) rfl)
theorem q_1_109 : Cond.fieldLink "SoundDesk$Tongues" 7 "SoundDesk$Tongues" "count" "I" ∈ lw_ws := qx_1 (List.mem_of_getElem? (i := 109) rfl) rfl
theorem q_1_110 : Cond.fieldLink "SoundDesk$Row" 23 "SoundDesk$Tongues" "count" "I" ∈ lw_ws := qx_1 (List.mem_of_getElem? (i := 110) rfl) rfl
theorem q_1_111 : Cond.fieldLink "SoundDesk$Finder" 133 "SoundDesk$Tongues" "count" "I" ∈ lw_ws := qx_1 (List.mem_of_getElem? (i := 111) rfl) rfl
theorem q_1_112 : Cond.fieldLink "SoundDesk" 125 "SoundDesk$Tongues" "count" "I" ∈ lw_ws := qx_1 (List.mem_of_getElem? (i := 112) rfl) rfl
theorem q_1_113 : Cond.fieldLink "SoundDesk$Tongues" 13 "SoundDesk$Tongues" "parent" "[I" ∈ lw_ws := qx_1 (List.mem_of_getElem? (i := 113) rfl) rfl
theorem q_1_114 : Cond.fieldLink "SoundDesk$Row" 37 "SoundDesk$Tongues" "parent" "[I" ∈ lw_ws := qx_1 (List.mem_of_getElem? (i := 114) rfl) rfl
theorem q_1_115 : Cond.fieldLink "SoundDesk$Finder" 134 "SoundDesk$Tongues" "parent" "[I" ∈ lw_ws := qx_1 (List.mem_of_getElem? (i := 115) rfl) rfl
theorem q_1_116 : Cond.fieldLink "SoundDesk$Tongues" 17 "SoundDesk$Tongues" "ownCount" "[I" ∈ lw_ws := qx_1 (List.mem_of_getElem? (i := 116) rfl) rfl
theorem q_1_117 : Cond.fieldLink "SoundDesk$Row" 28 "SoundDesk$Tongues" "ownCount" "[I" ∈ lw_ws := qx_1 (List.mem_of_getElem? (i := 117) rfl) rfl
theorem q_1_118 : Cond.fieldLink "SoundDesk$Finder" 137 "SoundDesk$Tongues" "ownCount" "[I" ∈ lw_ws := qx_1 (List.mem_of_getElem? (i := 118) rfl) rfl
theorem q_1_119 : Cond.fieldLink "SoundDesk" 128 "SoundDesk$Tongues" "ownCount" "[I" ∈ lw_ws := qx_1 (List.mem_of_getElem? (i := 119) rfl) rfl
theorem q_1_120 : Cond.fieldLink "SoundDesk$Tongues" 22 "SoundDesk$Tongues" "own" "[[I" ∈ lw_ws := qx_1 (List.mem_of_getElem? (i := 120) rfl) rfl
theorem q_1_121 : Cond.fieldLink "SoundDesk$Row" 24 "SoundDesk$Tongues" "own" "[[I" ∈ lw_ws := qx_1 (List.mem_of_getElem? (i := 121) rfl) rfl
theorem q_1_122 : Cond.fieldLink "SoundDesk$Finder" 140 "SoundDesk$Tongues" "own" "[[I" ∈ lw_ws := qx_1 (List.mem_of_getElem? (i := 122) rfl) rfl
theorem q_1_123 : Cond.fieldLink "SoundDesk" 215 "SoundDesk$Tongues" "own" "[[I" ∈ lw_ws := qx_1 (List.mem_of_getElem? (i := 123) rfl) rfl
theorem q_1_133 : Cond.classLink "SoundDesk$State" 30 "SoundDesk$Meanings" ∈ lw_ws := qx_1 (List.mem_of_getElem? (i := 133) rfl) rfl
theorem q_1_134 : Cond.instantiable "SoundDesk$Meanings" 2 ∈ lw_ws := qx_1 (List.mem_of_getElem? (i := 134) rfl) rfl
theorem qt_1_135 : Cond.methodLinkNest "SoundDesk$State" 32 yX2_init "SoundDesk" ∈ lw_tbl := qz_1 (List.mem_of_getElem? (i := 135) rfl)
theorem q_1_136 : Cond.instanceMethod yX2_init ∈ lw_ws := qx_1 (List.mem_of_getElem? (i := 136) rfl) rfl
theorem q_1_137 : Cond.code yX2_init (prog_4_method_1_code) 1 (Option.none : Option FieldType) ∈ lw_ws := qx_1 (List.mem_of_getElem? (i := 137) rfl) rfl
theorem q_1_138 : Cond.methodLink "SoundDesk$Meanings" 3 objectInit ∈ lw_ws := qx_1 (List.mem_of_getElem? (i := 138) rfl) rfl
theorem q_1_139 : Cond.classLink "SoundDesk$Meanings" 17 "[[J" ∈ lw_ws := qx_1 (List.mem_of_getElem? (i := 139) rfl) rfl
theorem qt_1_140 : Cond.arrayOver (FieldType.array FieldType.long) ∈ lw_tbl := qz_1 (List.mem_of_getElem? (i := 140) rfl)
theorem q_1_141 : Cond.fieldLink "SoundDesk$Meanings" 9 "SoundDesk$Meanings" "count" "I" ∈ lw_ws := qx_1 (List.mem_of_getElem? (i := 141) rfl) rfl
theorem q_1_142 : Cond.fieldLink "SoundDesk$Finder" 166 "SoundDesk$Meanings" "count" "I" ∈ lw_ws := qx_1 (List.mem_of_getElem? (i := 142) rfl) rfl
theorem q_1_143 : Cond.fieldLink "SoundDesk" 226 "SoundDesk$Meanings" "count" "I" ∈ lw_ws := qx_1 (List.mem_of_getElem? (i := 143) rfl) rfl
theorem q_1_144 : Cond.fieldLink "SoundDesk$Meanings" 19 "SoundDesk$Meanings" "form" "[[J" ∈ lw_ws := qx_1 (List.mem_of_getElem? (i := 144) rfl) rfl
theorem q_1_145 : Cond.fieldLink "SoundDesk" 233 "SoundDesk$Meanings" "form" "[[J" ∈ lw_ws := qx_1 (List.mem_of_getElem? (i := 145) rfl) rfl
theorem q_1_151 : Cond.arrayClass (FieldType.long) ∈ lw_ws := qx_1 (List.mem_of_getElem? (i := 151) rfl) rfl
theorem q_1_152 : Cond.classLink "SoundDesk$State" 37 "SoundDesk$Path" ∈ lw_ws := qx_1 (List.mem_of_getElem? (i := 152) rfl) rfl
theorem q_1_153 : Cond.instantiable "SoundDesk$Path" 3 ∈ lw_ws := qx_1 (List.mem_of_getElem? (i := 153) rfl) rfl
theorem qt_1_154 : Cond.methodLinkNest "SoundDesk$State" 39 yX3_init "SoundDesk" ∈ lw_tbl := qz_1 (List.mem_of_getElem? (i := 154) rfl)
theorem q_1_155 : Cond.instanceMethod yX3_init ∈ lw_ws := qx_1 (List.mem_of_getElem? (i := 155) rfl) rfl
theorem q_1_156 : Cond.code yX3_init (prog_5_method_1_code) 1 (Option.none : Option FieldType) ∈ lw_ws := qx_1 (List.mem_of_getElem? (i := 156) rfl) rfl
theorem q_1_157 : Cond.methodLink "SoundDesk$Path" 1 objectInit ∈ lw_ws := qx_1 (List.mem_of_getElem? (i := 157) rfl) rfl
theorem q_1_158 : Cond.fieldLink "SoundDesk$Path" 7 "SoundDesk$Path" "count" "I" ∈ lw_ws := qx_1 (List.mem_of_getElem? (i := 158) rfl) rfl
theorem q_1_159 : Cond.fieldLink "SoundDesk$Finder" 73 "SoundDesk$Path" "count" "I" ∈ lw_ws := qx_1 (List.mem_of_getElem? (i := 159) rfl) rfl
theorem q_1_160 : Cond.fieldLink "SoundDesk" 273 "SoundDesk$Path" "count" "I" ∈ lw_ws := qx_1 (List.mem_of_getElem? (i := 160) rfl) rfl
theorem q_1_161 : Cond.fieldLink "SoundDesk$Path" 15 "SoundDesk$Path" "word" "[J" ∈ lw_ws := qx_1 (List.mem_of_getElem? (i := 161) rfl) rfl
theorem q_1_162 : Cond.fieldLink "SoundDesk$Finder" 93 "SoundDesk$Path" "word" "[J" ∈ lw_ws := qx_1 (List.mem_of_getElem? (i := 162) rfl) rfl
theorem q_1_163 : Cond.fieldLink "SoundDesk" 196 "SoundDesk$Path" "word" "[J" ∈ lw_ws := qx_1 (List.mem_of_getElem? (i := 163) rfl) rfl
theorem q_1_164 : Cond.fieldLink "SoundDesk$Path" 19 "SoundDesk$Path" "touched" "[I" ∈ lw_ws := qx_1 (List.mem_of_getElem? (i := 164) rfl) rfl
theorem q_1_165 : Cond.fieldLink "SoundDesk$Finder" 95 "SoundDesk$Path" "touched" "[I" ∈ lw_ws := qx_1 (List.mem_of_getElem? (i := 165) rfl) rfl
theorem q_1_166 : Cond.fieldLink "SoundDesk" 199 "SoundDesk$Path" "touched" "[I" ∈ lw_ws := qx_1 (List.mem_of_getElem? (i := 166) rfl) rfl
theorem q_1_174 : Cond.fieldLink "SoundDesk$State" 10 "SoundDesk$State" "sounds" "LSoundDesk$Sounds;" ∈ lw_ws := qx_1 (List.mem_of_getElem? (i := 174) rfl) rfl
theorem q_1_175 : Cond.fieldLink "SoundDesk" 58 "SoundDesk$State" "sounds" "LSoundDesk$Sounds;" ∈ lw_ws := qx_1 (List.mem_of_getElem? (i := 175) rfl) rfl
theorem q_1_176 : Cond.fieldLink "SoundDesk$Finder" 100 "SoundDesk$State" "sounds" "LSoundDesk$Sounds;" ∈ lw_ws := qx_1 (List.mem_of_getElem? (i := 176) rfl) rfl
theorem q_1_177 : Cond.fieldLink "SoundDesk$State" 19 "SoundDesk$State" "laws" "LSoundDesk$Laws;" ∈ lw_ws := qx_1 (List.mem_of_getElem? (i := 177) rfl) rfl
theorem q_1_178 : Cond.fieldLink "SoundDesk" 69 "SoundDesk$State" "laws" "LSoundDesk$Laws;" ∈ lw_ws := qx_1 (List.mem_of_getElem? (i := 178) rfl) rfl
theorem q_1_179 : Cond.fieldLink "SoundDesk$Finder" 80 "SoundDesk$State" "laws" "LSoundDesk$Laws;" ∈ lw_ws := qx_1 (List.mem_of_getElem? (i := 179) rfl) rfl
theorem q_1_180 : Cond.fieldLink "SoundDesk$State" 26 "SoundDesk$State" "tongues" "LSoundDesk$Tongues;" ∈ lw_ws := qx_1 (List.mem_of_getElem? (i := 180) rfl) rfl
theorem q_1_181 : Cond.fieldLink "SoundDesk$Finder" 61 "SoundDesk$State" "tongues" "LSoundDesk$Tongues;" ∈ lw_ws := qx_1 (List.mem_of_getElem? (i := 181) rfl) rfl
theorem q_1_182 : Cond.fieldLink "SoundDesk" 120 "SoundDesk$State" "tongues" "LSoundDesk$Tongues;" ∈ lw_ws := qx_1 (List.mem_of_getElem? (i := 182) rfl) rfl
theorem q_1_183 : Cond.fieldLink "SoundDesk$State" 33 "SoundDesk$State" "meanings" "LSoundDesk$Meanings;" ∈ lw_ws := qx_1 (List.mem_of_getElem? (i := 183) rfl) rfl
theorem q_1_184 : Cond.fieldLink "SoundDesk$Finder" 148 "SoundDesk$State" "meanings" "LSoundDesk$Meanings;" ∈ lw_ws := qx_1 (List.mem_of_getElem? (i := 184) rfl) rfl
theorem q_1_185 : Cond.fieldLink "SoundDesk" 222 "SoundDesk$State" "meanings" "LSoundDesk$Meanings;" ∈ lw_ws := qx_1 (List.mem_of_getElem? (i := 185) rfl) rfl
theorem q_1_186 : Cond.fieldLink "SoundDesk$State" 40 "SoundDesk$State" "latest" "LSoundDesk$Path;" ∈ lw_ws := qx_1 (List.mem_of_getElem? (i := 186) rfl) rfl
theorem q_1_187 : Cond.fieldLink "SoundDesk" 179 "SoundDesk$State" "latest" "LSoundDesk$Path;" ∈ lw_ws := qx_1 (List.mem_of_getElem? (i := 187) rfl) rfl
theorem q_1_188 : Cond.fieldLink "SoundDesk$State" 46 "SoundDesk$State" "word" "J" ∈ lw_ws := qx_1 (List.mem_of_getElem? (i := 188) rfl) rfl
theorem q_1_189 : Cond.fieldLink "SoundDesk$Finder" 74 "SoundDesk$State" "word" "J" ∈ lw_ws := qx_1 (List.mem_of_getElem? (i := 189) rfl) rfl
theorem q_1_190 : Cond.fieldLink "SoundDesk" 155 "SoundDesk$State" "word" "J" ∈ lw_ws := qx_1 (List.mem_of_getElem? (i := 190) rfl) rfl
theorem q_1_191 : Cond.fieldLink "SoundDesk$State" 50 "SoundDesk$State" "outcome" "J" ∈ lw_ws := qx_1 (List.mem_of_getElem? (i := 191) rfl) rfl
theorem q_1_192 : Cond.fieldLink "SoundDesk$Finder" 130 "SoundDesk$State" "outcome" "J" ∈ lw_ws := qx_1 (List.mem_of_getElem? (i := 192) rfl) rfl
theorem q_1_193 : Cond.fieldLink "SoundDesk" 168 "SoundDesk$State" "outcome" "J" ∈ lw_ws := qx_1 (List.mem_of_getElem? (i := 193) rfl) rfl
theorem q_1_194 : Cond.fieldLink "SoundDesk$State" 53 "SoundDesk$State" "gap" "I" ∈ lw_ws := qx_1 (List.mem_of_getElem? (i := 194) rfl) rfl
theorem q_1_195 : Cond.fieldLink "SoundDesk$Finder" 201 "SoundDesk$State" "gap" "I" ∈ lw_ws := qx_1 (List.mem_of_getElem? (i := 195) rfl) rfl
theorem q_1_196 : Cond.fieldLink "SoundDesk" 258 "SoundDesk$State" "gap" "I" ∈ lw_ws := qx_1 (List.mem_of_getElem? (i := 196) rfl) rfl
theorem q_1_214 : Cond.classLink "SoundDesk$Finder" 18 "SoundDesk$Row" ∈ lw_ws := qx_1 (List.mem_of_getElem? (i := 214) rfl) rfl
theorem q_1_215 : Cond.instantiable "SoundDesk$Row" 2 ∈ lw_ws := qx_1 (List.mem_of_getElem? (i := 215) rfl) rfl
theorem qt_1_216 : Cond.methodLinkNest "SoundDesk$Finder" 20 yX4_init "SoundDesk" ∈ lw_tbl := qz_1 (List.mem_of_getElem? (i := 216) rfl)
theorem q_1_217 : Cond.instanceMethod yX4_init ∈ lw_ws := qx_1 (List.mem_of_getElem? (i := 217) rfl) rfl
theorem q_1_218 : Cond.code yX4_init (prog_6_method_1_code) 1 (Option.none : Option FieldType) ∈ lw_ws := qx_1 (List.mem_of_getElem? (i := 218) rfl) rfl
theorem q_1_219 : Cond.methodLink "SoundDesk$Row" 3 objectInit ∈ lw_ws := qx_1 (List.mem_of_getElem? (i := 219) rfl) rfl
theorem q_1_220 : Cond.fieldLink "SoundDesk$Row" 9 "SoundDesk$Row" "count" "I" ∈ lw_ws := qx_1 (List.mem_of_getElem? (i := 220) rfl) rfl
theorem q_1_221 : Cond.fieldLink "SoundDesk$Finder" 69 "SoundDesk$Row" "count" "I" ∈ lw_ws := qx_1 (List.mem_of_getElem? (i := 221) rfl) rfl
theorem q_1_222 : Cond.fieldLink "SoundDesk" 151 "SoundDesk$Row" "count" "I" ∈ lw_ws := qx_1 (List.mem_of_getElem? (i := 222) rfl) rfl
theorem q_1_223 : Cond.fieldLink "SoundDesk$Row" 15 "SoundDesk$Row" "law" "[I" ∈ lw_ws := qx_1 (List.mem_of_getElem? (i := 223) rfl) rfl
theorem q_1_224 : Cond.fieldLink "SoundDesk$Finder" 84 "SoundDesk$Row" "law" "[I" ∈ lw_ws := qx_1 (List.mem_of_getElem? (i := 224) rfl) rfl
theorem q_1_225 : Cond.fieldLink "SoundDesk" 152 "SoundDesk$Row" "law" "[I" ∈ lw_ws := qx_1 (List.mem_of_getElem? (i := 225) rfl) rfl
theorem q_1_231 : Cond.classLink "SoundDesk$Finder" 25 "SoundDesk$Path" ∈ lw_ws := qx_1 (List.mem_of_getElem? (i := 231) rfl) rfl
theorem qt_1_232 : Cond.methodLinkNest "SoundDesk$Finder" 27 yX3_init "SoundDesk" ∈ lw_tbl := qz_1 (List.mem_of_getElem? (i := 232) rfl)
theorem q_1_233 : Cond.classLink "SoundDesk$Finder" 35 "SoundDesk$WordSet" ∈ lw_ws := qx_1 (List.mem_of_getElem? (i := 233) rfl) rfl
theorem q_1_234 : Cond.instantiable "SoundDesk$WordSet" 1 ∈ lw_ws := qx_1 (List.mem_of_getElem? (i := 234) rfl) rfl
theorem qt_1_235 : Cond.methodLinkNest "SoundDesk$Finder" 37 yX8_init "SoundDesk" ∈ lw_tbl := qz_1 (List.mem_of_getElem? (i := 235) rfl)
theorem q_1_236 : Cond.instanceMethod yX8_init ∈ lw_ws := qx_1 (List.mem_of_getElem? (i := 236) rfl) rfl
theorem q_1_237 : Cond.code yX8_init (prog_10_method_1_code) 1 (Option.none : Option FieldType) ∈ lw_ws := qx_1 (List.mem_of_getElem? (i := 237) rfl) rfl
theorem q_1_238 : Cond.methodLink "SoundDesk$WordSet" 3 objectInit ∈ lw_ws := qx_1 (List.mem_of_getElem? (i := 238) rfl) rfl
theorem q_1_239 : Cond.fieldLink "SoundDesk$WordSet" 11 "SoundDesk$WordSet" "slot" "[J" ∈ lw_ws := qx_1 (List.mem_of_getElem? (i := 239) rfl) rfl
theorem q_2_3 : Cond.fieldLink "SoundDesk$Finder" 12 "SoundDesk$Finder" "state" "LSoundDesk$State;" ∈ lw_ws := qx_2 (List.mem_of_getElem? (i := 3) rfl) rfl
theorem q_2_4 : Cond.fieldLink "SoundDesk" 16 "SoundDesk$Finder" "state" "LSoundDesk$State;" ∈ lw_ws := qx_2 (List.mem_of_getElem? (i := 4) rfl) rfl
theorem q_2_5 : Cond.fieldLink "SoundDesk$Finder" 21 "SoundDesk$Finder" "row" "LSoundDesk$Row;" ∈ lw_ws := qx_2 (List.mem_of_getElem? (i := 5) rfl) rfl
theorem q_2_6 : Cond.fieldLink "SoundDesk" 141 "SoundDesk$Finder" "row" "LSoundDesk$Row;" ∈ lw_ws := qx_2 (List.mem_of_getElem? (i := 6) rfl) rfl
theorem q_2_7 : Cond.fieldLink "SoundDesk$Finder" 28 "SoundDesk$Finder" "path" "LSoundDesk$Path;" ∈ lw_ws := qx_2 (List.mem_of_getElem? (i := 7) rfl) rfl
theorem q_2_8 : Cond.fieldLink "SoundDesk" 183 "SoundDesk$Finder" "path" "LSoundDesk$Path;" ∈ lw_ws := qx_2 (List.mem_of_getElem? (i := 8) rfl) rfl
theorem q_2_9 : Cond.fieldLink "SoundDesk$Finder" 32 "SoundDesk$Finder" "otherRow" "LSoundDesk$Row;" ∈ lw_ws := qx_2 (List.mem_of_getElem? (i := 9) rfl) rfl
theorem q_2_10 : Cond.fieldLink "SoundDesk$Finder" 38 "SoundDesk$Finder" "seen" "LSoundDesk$WordSet;" ∈ lw_ws := qx_2 (List.mem_of_getElem? (i := 10) rfl) rfl
theorem q_2_11 : Cond.fieldLink "SoundDesk$Finder" 44 "SoundDesk$Finder" "goals" "[J" ∈ lw_ws := qx_2 (List.mem_of_getElem? (i := 11) rfl) rfl
theorem q_2_12 : Cond.fieldLink "SoundDesk$Finder" 48 "SoundDesk$Finder" "standingLaws" "[I" ∈ lw_ws := qx_2 (List.mem_of_getElem? (i := 12) rfl) rfl
theorem q_2_13 : Cond.fieldLink "SoundDesk$Finder" 52 "SoundDesk$Finder" "seats" "[I" ∈ lw_ws := qx_2 (List.mem_of_getElem? (i := 13) rfl) rfl
theorem q_2_14 : Cond.fieldLink "SoundDesk$Finder" 55 "SoundDesk$Finder" "bestSeats" "[I" ∈ lw_ws := qx_2 (List.mem_of_getElem? (i := 14) rfl) rfl
theorem q_2_15 : Cond.fieldLink "SoundDesk$Finder" 58 "SoundDesk$Finder" "costs" "[I" ∈ lw_ws := qx_2 (List.mem_of_getElem? (i := 15) rfl) rfl
theorem q_2_37 : Cond.classLink "SoundDesk" 23 "SoundDesk$State" ∈ lw_ws := qx_2 (List.mem_of_getElem? (i := 37) rfl) rfl
theorem qt_2_38 : Cond.methodLinkNest "SoundDesk" 25 yX6_init "SoundDesk" ∈ lw_tbl := qz_2 (List.mem_of_getElem? (i := 38) rfl)
theorem q_2_39 : Cond.fieldLink "SoundDesk" 10 "SoundDesk" "finder" "LSoundDesk$Finder;" ∈ lw_ws := qx_2 (List.mem_of_getElem? (i := 39) rfl) rfl
theorem q_2_40 : Cond.fieldLink "SoundDesk" 20 "SoundDesk" "now" "LSoundDesk$State;" ∈ lw_ws := qx_2 (List.mem_of_getElem? (i := 40) rfl) rfl
theorem q_2_41 : Cond.fieldLink "SoundDesk" 26 "SoundDesk" "kept" "LSoundDesk$State;" ∈ lw_ws := qx_2 (List.mem_of_getElem? (i := 41) rfl) rfl
theorem q_2_42 : Cond.fieldLink "SoundDesk" 29 "SoundDesk" "waiting" "[I" ∈ lw_ws := qx_2 (List.mem_of_getElem? (i := 42) rfl) rfl
theorem q_2_43 : Cond.fieldLink "SoundDesk" 33 "SoundDesk" "waitingCount" "I" ∈ lw_ws := qx_2 (List.mem_of_getElem? (i := 43) rfl) rfl
theorem q_2_44 : Cond.fieldLink "SoundDesk" 37 "SoundDesk" "anythingKept" "Z" ∈ lw_ws := qx_2 (List.mem_of_getElem? (i := 44) rfl) rfl
theorem q_2_45 : Cond.fieldLink "SoundDesk" 41 "SoundDesk" "findings" "I" ∈ lw_ws := qx_2 (List.mem_of_getElem? (i := 45) rfl) rfl
theorem q_2_61 : Cond.methodLink "SoundDeskLaw" 13 yX10_sound ∈ lw_ws := qx_2 (List.mem_of_getElem? (i := 61) rfl) rfl
theorem q_2_62 : Cond.instanceMethod yX10_sound ∈ lw_ws := qx_2 (List.mem_of_getElem? (i := 62) rfl) rfl
theorem q_2_63 : Cond.selects "SoundDesk" yX10_sound yX10_sound ∈ lw_ws := qx_2 (List.mem_of_getElem? (i := 63) rfl) rfl
theorem q_2_64 : Cond.code yX10_sound (prog_1_method_2_code) 5 (Option.some FieldType.int) ∈ lw_ws := qx_2 (List.mem_of_getElem? (i := 64) rfl) rfl
theorem q_2_65 : Cond.methodLink "SoundDesk" 44 yX5_isKind ∈ lw_ws := qx_2 (List.mem_of_getElem? (i := 65) rfl) rfl
theorem q_2_66 : Cond.static yX5_isKind ∈ lw_ws := qx_2 (List.mem_of_getElem? (i := 66) rfl) rfl
theorem q_2_67 : Cond.code yX5_isKind (prog_7_method_2_code) 1 (Option.some FieldType.boolean) ∈ lw_ws := qx_2 (List.mem_of_getElem? (i := 67) rfl) rfl
theorem q_2_68 : Cond.methodLink "SoundDesk" 50 yX5_isRow ∈ lw_ws := qx_2 (List.mem_of_getElem? (i := 68) rfl) rfl
theorem q_2_69 : Cond.static yX5_isRow ∈ lw_ws := qx_2 (List.mem_of_getElem? (i := 69) rfl) rfl
theorem q_2_70 : Cond.code yX5_isRow (prog_7_method_4_code) 2 (Option.some FieldType.boolean) ∈ lw_ws := qx_2 (List.mem_of_getElem? (i := 70) rfl) rfl
theorem q_2_71 : Cond.methodLink "SoundDesk$Sounds" 26 yX5_isMarks ∈ lw_ws := qx_2 (List.mem_of_getElem? (i := 71) rfl) rfl
theorem q_2_72 : Cond.static yX5_isMarks ∈ lw_ws := qx_2 (List.mem_of_getElem? (i := 72) rfl) rfl
theorem q_2_73 : Cond.code yX5_isMarks (prog_7_method_3_code) 1 (Option.some FieldType.boolean) ∈ lw_ws := qx_2 (List.mem_of_getElem? (i := 73) rfl) rfl
theorem q_2_74 : Cond.methodLink "SoundDesk" 54 yX10_found ∈ lw_ws := qx_2 (List.mem_of_getElem? (i := 74) rfl) rfl
theorem q_2_76 : Cond.instanceMethod yX10_found ∈ lw_ws := qx_2 (List.mem_of_getElem? (i := 76) rfl) rfl
theorem q_2_77 : Cond.code yX10_found (prog_1_method_37_code) 2 (Option.some FieldType.int) ∈ lw_ws := qx_2 (List.mem_of_getElem? (i := 77) rfl) rfl
theorem q_2_78 : Cond.methodLink "SoundDesk" 65 yX5_add ∈ lw_ws := qx_2 (List.mem_of_getElem? (i := 78) rfl) rfl
theorem q_2_79 : Cond.instanceMethod yX5_add ∈ lw_ws := qx_2 (List.mem_of_getElem? (i := 79) rfl) rfl
theorem q_2_80 : Cond.selects "SoundDesk$Sounds" yX5_add yX5_add ∈ lw_ws := qx_2 (List.mem_of_getElem? (i := 80) rfl) rfl
theorem q_2_81 : Cond.code yX5_add (prog_7_method_7_code) 6 (Option.some FieldType.int) ∈ lw_ws := qx_2 (List.mem_of_getElem? (i := 81) rfl) rfl
theorem q_2_82 : Cond.methodLink "SoundDesk" 73 yX1_fitAll ∈ lw_ws := qx_2 (List.mem_of_getElem? (i := 82) rfl) rfl
theorem q_2_83 : Cond.instanceMethod yX1_fitAll ∈ lw_ws := qx_2 (List.mem_of_getElem? (i := 83) rfl) rfl
theorem q_2_84 : Cond.selects "SoundDesk$Laws" yX1_fitAll yX1_fitAll ∈ lw_ws := qx_2 (List.mem_of_getElem? (i := 84) rfl) rfl
theorem q_2_85 : Cond.code yX1_fitAll (prog_3_method_10_code) 3 (Option.none : Option FieldType) ∈ lw_ws := qx_2 (List.mem_of_getElem? (i := 85) rfl) rfl
theorem q_2_86 : Cond.methodLink "SoundDesk$Laws" 63 yX1_fittingBits ∈ lw_ws := qx_2 (List.mem_of_getElem? (i := 86) rfl) rfl
theorem q_2_88 : Cond.instanceMethod yX1_fittingBits ∈ lw_ws := qx_2 (List.mem_of_getElem? (i := 88) rfl) rfl
theorem q_2_89 : Cond.code yX1_fittingBits (prog_3_method_11_code) 5 (Option.some FieldType.int) ∈ lw_ws := qx_2 (List.mem_of_getElem? (i := 89) rfl) rfl
theorem q_2_90 : Cond.methodLink "SoundDesk$Laws" 68 yX5_fits ∈ lw_ws := qx_2 (List.mem_of_getElem? (i := 90) rfl) rfl
theorem q_2_91 : Cond.instanceMethod yX5_fits ∈ lw_ws := qx_2 (List.mem_of_getElem? (i := 91) rfl) rfl
theorem q_2_92 : Cond.selects "SoundDesk$Sounds" yX5_fits yX5_fits ∈ lw_ws := qx_2 (List.mem_of_getElem? (i := 92) rfl) rfl
theorem q_2_93 : Cond.code yX5_fits (prog_7_method_11_code) 5 (Option.some FieldType.boolean) ∈ lw_ws := qx_2 (List.mem_of_getElem? (i := 93) rfl) rfl
theorem q_2_94 : Cond.methodLink "SoundDesk$Sounds" 36 yX5_isOf ∈ lw_ws := qx_2 (List.mem_of_getElem? (i := 94) rfl) rfl
theorem q_2_95 : Cond.instanceMethod yX5_isOf ∈ lw_ws := qx_2 (List.mem_of_getElem? (i := 95) rfl) rfl
theorem q_2_96 : Cond.selects "SoundDesk$Sounds" yX5_isOf yX5_isOf ∈ lw_ws := qx_2 (List.mem_of_getElem? (i := 96) rfl) rfl
theorem q_2_97 : Cond.code yX5_isOf (prog_7_method_10_code) 4 (Option.some FieldType.boolean) ∈ lw_ws := qx_2 (List.mem_of_getElem? (i := 97) rfl) rfl
theorem q_2_98 : Cond.methodLink "SoundDeskLaw" 18 yX10_mark ∈ lw_ws := qx_2 (List.mem_of_getElem? (i := 98) rfl) rfl
theorem q_2_99 : Cond.instanceMethod yX10_mark ∈ lw_ws := qx_2 (List.mem_of_getElem? (i := 99) rfl) rfl
theorem q_2_100 : Cond.selects "SoundDesk" yX10_mark yX10_mark ∈ lw_ws := qx_2 (List.mem_of_getElem? (i := 100) rfl) rfl
theorem q_2_101 : Cond.code yX10_mark (prog_1_method_3_code) 3 (Option.some FieldType.int) ∈ lw_ws := qx_2 (List.mem_of_getElem? (i := 101) rfl) rfl
theorem q_2_102 : Cond.methodLink "SoundDesk" 79 yX5_has ∈ lw_ws := qx_2 (List.mem_of_getElem? (i := 102) rfl) rfl
theorem q_2_103 : Cond.instanceMethod yX5_has ∈ lw_ws := qx_2 (List.mem_of_getElem? (i := 103) rfl) rfl
theorem q_2_104 : Cond.selects "SoundDesk$Sounds" yX5_has yX5_has ∈ lw_ws := qx_2 (List.mem_of_getElem? (i := 104) rfl) rfl
theorem q_2_105 : Cond.code yX5_has (prog_7_method_6_code) 2 (Option.some FieldType.boolean) ∈ lw_ws := qx_2 (List.mem_of_getElem? (i := 105) rfl) rfl
theorem q_2_106 : Cond.methodLink "SoundDesk" 82 yX5_isRowMissing ∈ lw_ws := qx_2 (List.mem_of_getElem? (i := 106) rfl) rfl
theorem q_2_107 : Cond.instanceMethod yX5_isRowMissing ∈ lw_ws := qx_2 (List.mem_of_getElem? (i := 107) rfl) rfl
theorem q_2_108 : Cond.selects "SoundDesk$Sounds" yX5_isRowMissing yX5_isRowMissing ∈ lw_ws := qx_2 (List.mem_of_getElem? (i := 108) rfl) rfl
theorem q_2_109 : Cond.code yX5_isRowMissing (prog_7_method_8_code) 2 (Option.some FieldType.boolean) ∈ lw_ws := qx_2 (List.mem_of_getElem? (i := 109) rfl) rfl
theorem q_2_110 : Cond.methodLink "SoundDesk" 85 yX5_markOf ∈ lw_ws := qx_2 (List.mem_of_getElem? (i := 110) rfl) rfl
theorem q_2_111 : Cond.instanceMethod yX5_markOf ∈ lw_ws := qx_2 (List.mem_of_getElem? (i := 111) rfl) rfl
theorem q_2_112 : Cond.selects "SoundDesk$Sounds" yX5_markOf yX5_markOf ∈ lw_ws := qx_2 (List.mem_of_getElem? (i := 112) rfl) rfl
theorem q_2_113 : Cond.code yX5_markOf (prog_7_method_9_code) 3 (Option.some FieldType.int) ∈ lw_ws := qx_2 (List.mem_of_getElem? (i := 113) rfl) rfl
theorem q_2_114 : Cond.methodLink "SoundDeskLaw" 23 yX10_as ∈ lw_ws := qx_2 (List.mem_of_getElem? (i := 114) rfl) rfl
theorem q_2_115 : Cond.instanceMethod yX10_as ∈ lw_ws := qx_2 (List.mem_of_getElem? (i := 115) rfl) rfl
theorem q_2_116 : Cond.selects "SoundDesk" yX10_as yX10_as ∈ lw_ws := qx_2 (List.mem_of_getElem? (i := 116) rfl) rfl
theorem q_2_117 : Cond.code yX10_as (prog_1_method_4_code) 3 (Option.some FieldType.int) ∈ lw_ws := qx_2 (List.mem_of_getElem? (i := 117) rfl) rfl
theorem q_2_118 : Cond.methodLink "SoundDesk" 89 yX5_isOf ∈ lw_ws := qx_2 (List.mem_of_getElem? (i := 118) rfl) rfl
theorem q_2_119 : Cond.methodLink "SoundDeskLaw" 27 yX10_law ∈ lw_ws := qx_2 (List.mem_of_getElem? (i := 119) rfl) rfl
theorem q_2_120 : Cond.instanceMethod yX10_law ∈ lw_ws := qx_2 (List.mem_of_getElem? (i := 120) rfl) rfl
theorem q_2_121 : Cond.selects "SoundDesk" yX10_law yX10_law ∈ lw_ws := qx_2 (List.mem_of_getElem? (i := 121) rfl) rfl
theorem q_2_122 : Cond.code yX10_law (prog_1_method_5_code) 2 (Option.some FieldType.int) ∈ lw_ws := qx_2 (List.mem_of_getElem? (i := 122) rfl) rfl
theorem q_2_123 : Cond.methodLink "SoundDesk" 92 yX1_isKind ∈ lw_ws := qx_2 (List.mem_of_getElem? (i := 123) rfl) rfl
theorem q_2_124 : Cond.static yX1_isKind ∈ lw_ws := qx_2 (List.mem_of_getElem? (i := 124) rfl) rfl
theorem q_2_125 : Cond.code yX1_isKind (prog_3_method_2_code) 1 (Option.some FieldType.boolean) ∈ lw_ws := qx_2 (List.mem_of_getElem? (i := 125) rfl) rfl
theorem q_2_126 : Cond.methodLink "SoundDesk" 94 yX1_add ∈ lw_ws := qx_2 (List.mem_of_getElem? (i := 126) rfl) rfl
theorem q_2_127 : Cond.instanceMethod yX1_add ∈ lw_ws := qx_2 (List.mem_of_getElem? (i := 127) rfl) rfl
theorem q_2_128 : Cond.selects "SoundDesk$Laws" yX1_add yX1_add ∈ lw_ws := qx_2 (List.mem_of_getElem? (i := 128) rfl) rfl
theorem q_2_129 : Cond.code yX1_add (prog_3_method_8_code) 4 (Option.some FieldType.int) ∈ lw_ws := qx_2 (List.mem_of_getElem? (i := 129) rfl) rfl
theorem q_2_130 : Cond.methodLink "SoundDesk$Laws" 55 yX1_setPlace ∈ lw_ws := qx_2 (List.mem_of_getElem? (i := 130) rfl) rfl
theorem q_2_131 : Cond.static yX1_setPlace ∈ lw_ws := qx_2 (List.mem_of_getElem? (i := 131) rfl) rfl
theorem q_2_132 : Cond.code yX1_setPlace (prog_3_method_5_code) 2 (Option.some FieldType.int) ∈ lw_ws := qx_2 (List.mem_of_getElem? (i := 132) rfl) rfl
theorem q_2_133 : Cond.methodLink "SoundDesk$Laws" 59 yX1_define ∈ lw_ws := qx_2 (List.mem_of_getElem? (i := 133) rfl) rfl
theorem q_2_134 : Cond.instanceMethod yX1_define ∈ lw_ws := qx_2 (List.mem_of_getElem? (i := 134) rfl) rfl
theorem q_2_135 : Cond.selects "SoundDesk$Laws" yX1_define yX1_define ∈ lw_ws := qx_2 (List.mem_of_getElem? (i := 135) rfl) rfl
theorem q_2_136 : Cond.code yX1_define (prog_3_method_9_code) 6 (Option.none : Option FieldType) ∈ lw_ws := qx_2 (List.mem_of_getElem? (i := 136) rfl) rfl
theorem q_2_137 : Cond.methodLink "SoundDeskLaw" 32 yX10_set ∈ lw_ws := qx_2 (List.mem_of_getElem? (i := 137) rfl) rfl
theorem q_2_138 : Cond.instanceMethod yX10_set ∈ lw_ws := qx_2 (List.mem_of_getElem? (i := 138) rfl) rfl
theorem q_2_139 : Cond.selects "SoundDesk" yX10_set yX10_set ∈ lw_ws := qx_2 (List.mem_of_getElem? (i := 139) rfl) rfl
theorem q_2_140 : Cond.code yX10_set (prog_1_method_6_code) 6 (Option.some FieldType.int) ∈ lw_ws := qx_2 (List.mem_of_getElem? (i := 140) rfl) rfl
theorem q_2_141 : Cond.methodLink "SoundDesk" 97 yX1_has ∈ lw_ws := qx_2 (List.mem_of_getElem? (i := 141) rfl) rfl
theorem q_2_142 : Cond.instanceMethod yX1_has ∈ lw_ws := qx_2 (List.mem_of_getElem? (i := 142) rfl) rfl
theorem q_2_143 : Cond.selects "SoundDesk$Laws" yX1_has yX1_has ∈ lw_ws := qx_2 (List.mem_of_getElem? (i := 143) rfl) rfl
theorem q_2_144 : Cond.code yX1_has (prog_3_method_7_code) 2 (Option.some FieldType.boolean) ∈ lw_ws := qx_2 (List.mem_of_getElem? (i := 144) rfl) rfl
theorem q_2_145 : Cond.methodLink "SoundDesk" 98 yX1_isSet ∈ lw_ws := qx_2 (List.mem_of_getElem? (i := 145) rfl) rfl
theorem q_2_146 : Cond.static yX1_isSet ∈ lw_ws := qx_2 (List.mem_of_getElem? (i := 146) rfl) rfl
theorem q_2_147 : Cond.code yX1_isSet (prog_3_method_4_code) 4 (Option.some FieldType.boolean) ∈ lw_ws := qx_2 (List.mem_of_getElem? (i := 147) rfl) rfl
theorem q_2_148 : Cond.methodLink "SoundDesk$Laws" 40 yX5_isKind ∈ lw_ws := qx_2 (List.mem_of_getElem? (i := 148) rfl) rfl
theorem q_2_149 : Cond.methodLink "SoundDesk$Laws" 46 yX5_isMarks ∈ lw_ws := qx_2 (List.mem_of_getElem? (i := 149) rfl) rfl
theorem q_2_150 : Cond.methodLink "SoundDesk" 102 yX1_setPlace ∈ lw_ws := qx_2 (List.mem_of_getElem? (i := 150) rfl) rfl
theorem q_2_151 : Cond.methodLink "SoundDesk" 105 yX1_define ∈ lw_ws := qx_2 (List.mem_of_getElem? (i := 151) rfl) rfl
theorem q_2_152 : Cond.methodLink "SoundDeskLaw" 37 yX10_becomes ∈ lw_ws := qx_2 (List.mem_of_getElem? (i := 152) rfl) rfl
theorem q_2_153 : Cond.instanceMethod yX10_becomes ∈ lw_ws := qx_2 (List.mem_of_getElem? (i := 153) rfl) rfl
theorem q_2_154 : Cond.selects "SoundDesk" yX10_becomes yX10_becomes ∈ lw_ws := qx_2 (List.mem_of_getElem? (i := 154) rfl) rfl
theorem q_2_155 : Cond.code yX10_becomes (prog_1_method_7_code) 5 (Option.some FieldType.int) ∈ lw_ws := qx_2 (List.mem_of_getElem? (i := 155) rfl) rfl
theorem q_2_156 : Cond.methodLink "SoundDesk" 109 yX1_isHow ∈ lw_ws := qx_2 (List.mem_of_getElem? (i := 156) rfl) rfl
theorem q_2_157 : Cond.static yX1_isHow ∈ lw_ws := qx_2 (List.mem_of_getElem? (i := 157) rfl) rfl
theorem q_2_158 : Cond.code yX1_isHow (prog_3_method_3_code) 1 (Option.some FieldType.boolean) ∈ lw_ws := qx_2 (List.mem_of_getElem? (i := 158) rfl) rfl
theorem q_2_159 : Cond.methodLink "SoundDeskLaw" 41 yX10_tongue ∈ lw_ws := qx_2 (List.mem_of_getElem? (i := 159) rfl) rfl
theorem q_2_160 : Cond.instanceMethod yX10_tongue ∈ lw_ws := qx_2 (List.mem_of_getElem? (i := 160) rfl) rfl
theorem q_2_161 : Cond.selects "SoundDesk" yX10_tongue yX10_tongue ∈ lw_ws := qx_2 (List.mem_of_getElem? (i := 161) rfl) rfl
theorem q_2_162 : Cond.code yX10_tongue (prog_1_method_8_code) 2 (Option.some FieldType.int) ∈ lw_ws := qx_2 (List.mem_of_getElem? (i := 162) rfl) rfl
theorem q_2_163 : Cond.methodLink "SoundDesk" 124 yX7_has ∈ lw_ws := qx_2 (List.mem_of_getElem? (i := 163) rfl) rfl
theorem q_2_164 : Cond.instanceMethod yX7_has ∈ lw_ws := qx_2 (List.mem_of_getElem? (i := 164) rfl) rfl
theorem q_2_165 : Cond.selects "SoundDesk$Tongues" yX7_has yX7_has ∈ lw_ws := qx_2 (List.mem_of_getElem? (i := 165) rfl) rfl
theorem q_2_166 : Cond.code yX7_has (prog_9_method_3_code) 2 (Option.some FieldType.boolean) ∈ lw_ws := qx_2 (List.mem_of_getElem? (i := 166) rfl) rfl
theorem q_2_167 : Cond.methodLink "SoundDesk" 126 yX7_add ∈ lw_ws := qx_2 (List.mem_of_getElem? (i := 167) rfl) rfl
theorem q_2_168 : Cond.instanceMethod yX7_add ∈ lw_ws := qx_2 (List.mem_of_getElem? (i := 168) rfl) rfl
theorem q_2_169 : Cond.selects "SoundDesk$Tongues" yX7_add yX7_add ∈ lw_ws := qx_2 (List.mem_of_getElem? (i := 169) rfl) rfl
theorem q_2_170 : Cond.code yX7_add (prog_9_method_5_code) 3 (Option.some FieldType.int) ∈ lw_ws := qx_2 (List.mem_of_getElem? (i := 170) rfl) rfl
theorem q_2_171 : Cond.methodLink "SoundDeskLaw" 45 yX10_give ∈ lw_ws := qx_2 (List.mem_of_getElem? (i := 171) rfl) rfl
theorem q_2_172 : Cond.instanceMethod yX10_give ∈ lw_ws := qx_2 (List.mem_of_getElem? (i := 172) rfl) rfl
theorem q_2_173 : Cond.selects "SoundDesk" yX10_give yX10_give ∈ lw_ws := qx_2 (List.mem_of_getElem? (i := 173) rfl) rfl
theorem q_2_174 : Cond.code yX10_give (prog_1_method_9_code) 3 (Option.some FieldType.int) ∈ lw_ws := qx_2 (List.mem_of_getElem? (i := 174) rfl) rfl
theorem q_2_175 : Cond.methodLink "SoundDesk" 131 yX7_append ∈ lw_ws := qx_2 (List.mem_of_getElem? (i := 175) rfl) rfl
theorem q_2_176 : Cond.instanceMethod yX7_append ∈ lw_ws := qx_2 (List.mem_of_getElem? (i := 176) rfl) rfl
theorem q_2_177 : Cond.selects "SoundDesk$Tongues" yX7_append yX7_append ∈ lw_ws := qx_2 (List.mem_of_getElem? (i := 177) rfl) rfl
theorem q_2_178 : Cond.code yX7_append (prog_9_method_6_code) 3 (Option.some FieldType.int) ∈ lw_ws := qx_2 (List.mem_of_getElem? (i := 178) rfl) rfl
theorem q_2_179 : Cond.methodLink "SoundDeskLaw" 49 yX10_swap ∈ lw_ws := qx_2 (List.mem_of_getElem? (i := 179) rfl) rfl
theorem q_2_180 : Cond.instanceMethod yX10_swap ∈ lw_ws := qx_2 (List.mem_of_getElem? (i := 180) rfl) rfl
theorem q_2_181 : Cond.selects "SoundDesk" yX10_swap yX10_swap ∈ lw_ws := qx_2 (List.mem_of_getElem? (i := 181) rfl) rfl
theorem q_2_182 : Cond.code yX10_swap (prog_1_method_10_code) 3 (Option.some FieldType.int) ∈ lw_ws := qx_2 (List.mem_of_getElem? (i := 182) rfl) rfl
theorem q_2_183 : Cond.methodLink "SoundDesk" 134 yX7_hasPair ∈ lw_ws := qx_2 (List.mem_of_getElem? (i := 183) rfl) rfl
theorem q_2_184 : Cond.instanceMethod yX7_hasPair ∈ lw_ws := qx_2 (List.mem_of_getElem? (i := 184) rfl) rfl
theorem q_2_185 : Cond.selects "SoundDesk$Tongues" yX7_hasPair yX7_hasPair ∈ lw_ws := qx_2 (List.mem_of_getElem? (i := 185) rfl) rfl
theorem q_2_186 : Cond.code yX7_hasPair (prog_9_method_4_code) 3 (Option.some FieldType.boolean) ∈ lw_ws := qx_2 (List.mem_of_getElem? (i := 186) rfl) rfl
theorem q_2_187 : Cond.methodLink "SoundDesk$Tongues" 31 yX7_has ∈ lw_ws := qx_2 (List.mem_of_getElem? (i := 187) rfl) rfl
theorem q_2_188 : Cond.methodLink "SoundDesk" 137 yX7_exchange ∈ lw_ws := qx_2 (List.mem_of_getElem? (i := 188) rfl) rfl
theorem q_2_189 : Cond.instanceMethod yX7_exchange ∈ lw_ws := qx_2 (List.mem_of_getElem? (i := 189) rfl) rfl
theorem q_2_190 : Cond.selects "SoundDesk$Tongues" yX7_exchange yX7_exchange ∈ lw_ws := qx_2 (List.mem_of_getElem? (i := 190) rfl) rfl
theorem q_2_191 : Cond.code yX7_exchange (prog_9_method_7_code) 4 (Option.none : Option FieldType) ∈ lw_ws := qx_2 (List.mem_of_getElem? (i := 191) rfl) rfl
theorem q_2_192 : Cond.methodLink "SoundDeskLaw" 53 yX10_laws ∈ lw_ws := qx_2 (List.mem_of_getElem? (i := 192) rfl) rfl
theorem q_2_193 : Cond.instanceMethod yX10_laws ∈ lw_ws := qx_2 (List.mem_of_getElem? (i := 193) rfl) rfl
theorem q_2_194 : Cond.selects "SoundDesk" yX10_laws yX10_laws ∈ lw_ws := qx_2 (List.mem_of_getElem? (i := 194) rfl) rfl
theorem q_2_195 : Cond.code yX10_laws (prog_1_method_11_code) 2 (Option.some FieldType.int) ∈ lw_ws := qx_2 (List.mem_of_getElem? (i := 195) rfl) rfl
theorem q_2_196 : Cond.methodLink "SoundDesk" 145 yX4_fill ∈ lw_ws := qx_2 (List.mem_of_getElem? (i := 196) rfl) rfl
theorem q_2_197 : Cond.instanceMethod yX4_fill ∈ lw_ws := qx_2 (List.mem_of_getElem? (i := 197) rfl) rfl
theorem q_2_198 : Cond.selects "SoundDesk$Row" yX4_fill yX4_fill ∈ lw_ws := qx_2 (List.mem_of_getElem? (i := 198) rfl) rfl
theorem q_2_199 : Cond.code yX4_fill (prog_6_method_2_code) 5 (Option.none : Option FieldType) ∈ lw_ws := qx_2 (List.mem_of_getElem? (i := 199) rfl) rfl
theorem q_2_200 : Cond.methodLink "SoundDesk$Row" 19 yX4_lineOf ∈ lw_ws := qx_2 (List.mem_of_getElem? (i := 200) rfl) rfl
theorem q_2_201 : Cond.static yX4_lineOf ∈ lw_ws := qx_2 (List.mem_of_getElem? (i := 201) rfl) rfl
theorem q_2_202 : Cond.code yX4_lineOf (prog_6_method_3_code) 5 (Option.some FieldType.int) ∈ lw_ws := qx_2 (List.mem_of_getElem? (i := 202) rfl) rfl
theorem q_2_203 : Cond.methodLink "SoundDesk$Row" 31 arraycopyName ∈ lw_ws := qx_2 (List.mem_of_getElem? (i := 203) rfl) rfl
theorem q_2_204 : Cond.static arraycopyName ∈ lw_ws := qx_2 (List.mem_of_getElem? (i := 204) rfl) rfl
theorem q_2_205 : Cond.native arraycopyName ∈ lw_ws := qx_2 (List.mem_of_getElem? (i := 205) rfl) rfl
theorem q_2_206 : Cond.methodLink "SoundDeskLaw" 57 yX10_lawAt ∈ lw_ws := qx_2 (List.mem_of_getElem? (i := 206) rfl) rfl
theorem q_2_207 : Cond.instanceMethod yX10_lawAt ∈ lw_ws := qx_2 (List.mem_of_getElem? (i := 207) rfl) rfl
theorem q_2_208 : Cond.selects "SoundDesk" yX10_lawAt yX10_lawAt ∈ lw_ws := qx_2 (List.mem_of_getElem? (i := 208) rfl) rfl
theorem q_2_209 : Cond.code yX10_lawAt (prog_1_method_12_code) 3 (Option.some FieldType.int) ∈ lw_ws := qx_2 (List.mem_of_getElem? (i := 209) rfl) rfl
theorem q_2_210 : Cond.methodLink "SoundDeskLaw" 61 yX10_say ∈ lw_ws := qx_2 (List.mem_of_getElem? (i := 210) rfl) rfl
theorem q_2_211 : Cond.instanceMethod yX10_say ∈ lw_ws := qx_2 (List.mem_of_getElem? (i := 211) rfl) rfl
theorem q_2_212 : Cond.selects "SoundDesk" yX10_say yX10_say ∈ lw_ws := qx_2 (List.mem_of_getElem? (i := 212) rfl) rfl
theorem q_2_213 : Cond.code yX10_say (prog_1_method_13_code) 2 (Option.some FieldType.int) ∈ lw_ws := qx_2 (List.mem_of_getElem? (i := 213) rfl) rfl
theorem q_2_214 : Cond.methodLink "SoundDesk" 159 yX9_size ∈ lw_ws := qx_2 (List.mem_of_getElem? (i := 214) rfl) rfl
theorem q_2_215 : Cond.static yX9_size ∈ lw_ws := qx_2 (List.mem_of_getElem? (i := 215) rfl) rfl
theorem q_2_216 : Cond.code yX9_size (prog_11_method_6_code) 6 (Option.some FieldType.int) ∈ lw_ws := qx_2 (List.mem_of_getElem? (i := 216) rfl) rfl
theorem q_2_217 : Cond.methodLink "SoundDesk$Words" 13 yX9_withoutLast ∈ lw_ws := qx_2 (List.mem_of_getElem? (i := 217) rfl) rfl
theorem q_2_218 : Cond.static yX9_withoutLast ∈ lw_ws := qx_2 (List.mem_of_getElem? (i := 218) rfl) rfl
theorem q_2_219 : Cond.code yX9_withoutLast (prog_11_method_5_code) 2 (Option.some FieldType.long) ∈ lw_ws := qx_2 (List.mem_of_getElem? (i := 219) rfl) rfl
theorem q_2_220 : Cond.methodLink "SoundDesk" 165 yX9_add ∈ lw_ws := qx_2 (List.mem_of_getElem? (i := 220) rfl) rfl
theorem q_2_221 : Cond.static yX9_add ∈ lw_ws := qx_2 (List.mem_of_getElem? (i := 221) rfl) rfl
theorem q_2_222 : Cond.code yX9_add (prog_11_method_3_code) 3 (Option.some FieldType.long) ∈ lw_ws := qx_2 (List.mem_of_getElem? (i := 222) rfl) rfl
theorem q_2_223 : Cond.methodLink "SoundDeskLaw" 65 yX10_hush ∈ lw_ws := qx_2 (List.mem_of_getElem? (i := 223) rfl) rfl
theorem q_2_224 : Cond.instanceMethod yX10_hush ∈ lw_ws := qx_2 (List.mem_of_getElem? (i := 224) rfl) rfl
theorem q_2_225 : Cond.selects "SoundDesk" yX10_hush yX10_hush ∈ lw_ws := qx_2 (List.mem_of_getElem? (i := 225) rfl) rfl
theorem q_2_226 : Cond.code yX10_hush (prog_1_method_14_code) 2 (Option.some FieldType.int) ∈ lw_ws := qx_2 (List.mem_of_getElem? (i := 226) rfl) rfl
theorem q_2_227 : Cond.methodLink "SoundDeskLaw" 70 yX10_result ∈ lw_ws := qx_2 (List.mem_of_getElem? (i := 227) rfl) rfl
theorem q_2_228 : Cond.instanceMethod yX10_result ∈ lw_ws := qx_2 (List.mem_of_getElem? (i := 228) rfl) rfl
theorem q_2_229 : Cond.selects "SoundDesk" yX10_result yX10_result ∈ lw_ws := qx_2 (List.mem_of_getElem? (i := 229) rfl) rfl
theorem q_2_230 : Cond.code yX10_result (prog_1_method_15_code) 3 (Option.some FieldType.int) ∈ lw_ws := qx_2 (List.mem_of_getElem? (i := 230) rfl) rfl
theorem q_2_231 : Cond.methodLink "SoundDesk" 171 yX9_soundAt ∈ lw_ws := qx_2 (List.mem_of_getElem? (i := 231) rfl) rfl
theorem q_2_232 : Cond.static yX9_soundAt ∈ lw_ws := qx_2 (List.mem_of_getElem? (i := 232) rfl) rfl
theorem q_2_233 : Cond.code yX9_soundAt (prog_11_method_7_code) 4 (Option.some FieldType.int) ∈ lw_ws := qx_2 (List.mem_of_getElem? (i := 233) rfl) rfl
theorem q_2_234 : Cond.methodLink "SoundDesk$Words" 17 yX9_size ∈ lw_ws := qx_2 (List.mem_of_getElem? (i := 234) rfl) rfl
theorem q_2_235 : Cond.methodLink "SoundDeskLaw" 74 yX10_led ∈ lw_ws := qx_2 (List.mem_of_getElem? (i := 235) rfl) rfl
theorem q_2_236 : Cond.instanceMethod yX10_led ∈ lw_ws := qx_2 (List.mem_of_getElem? (i := 236) rfl) rfl
theorem q_2_237 : Cond.selects "SoundDesk" yX10_led yX10_led ∈ lw_ws := qx_2 (List.mem_of_getElem? (i := 237) rfl) rfl
theorem q_2_238 : Cond.code yX10_led (prog_1_method_16_code) 4 (Option.some FieldType.int) ∈ lw_ws := qx_2 (List.mem_of_getElem? (i := 238) rfl) rfl
theorem q_2_239 : Cond.methodLink "SoundDesk" 175 yX0_walk ∈ lw_ws := qx_2 (List.mem_of_getElem? (i := 239) rfl) rfl
theorem q_3_0 : Cond.instanceMethod yX0_walk ∈ lw_ws := qx_3 (List.mem_of_getElem? (i := 0) rfl) rfl
theorem q_3_1 : Cond.selects "SoundDesk$Finder" yX0_walk yX0_walk ∈ lw_ws := qx_3 (List.mem_of_getElem? (i := 1) rfl) rfl
theorem q_3_2 : Cond.code yX0_walk (prog_2_method_2_code) 5 (Option.some FieldType.long) ∈ lw_ws := qx_3 (List.mem_of_getElem? (i := 2) rfl) rfl
theorem q_3_3 : Cond.methodLink "SoundDesk$Finder" 65 yX4_fill ∈ lw_ws := qx_3 (List.mem_of_getElem? (i := 3) rfl) rfl
theorem q_3_4 : Cond.methodLink "SoundDesk$Finder" 87 yX1_lead ∈ lw_ws := qx_3 (List.mem_of_getElem? (i := 4) rfl) rfl
theorem q_3_5 : Cond.instanceMethod yX1_lead ∈ lw_ws := qx_3 (List.mem_of_getElem? (i := 5) rfl) rfl
theorem q_3_6 : Cond.selects "SoundDesk$Laws" yX1_lead yX1_lead ∈ lw_ws := qx_3 (List.mem_of_getElem? (i := 6) rfl) rfl
theorem q_3_7 : Cond.code yX1_lead (prog_3_method_12_code) 6 (Option.some FieldType.long) ∈ lw_ws := qx_3 (List.mem_of_getElem? (i := 7) rfl) rfl
theorem q_3_8 : Cond.methodLink "SoundDesk$Laws" 72 yX1_sweep ∈ lw_ws := qx_3 (List.mem_of_getElem? (i := 8) rfl) rfl
theorem q_3_10 : Cond.instanceMethod yX1_sweep ∈ lw_ws := qx_3 (List.mem_of_getElem? (i := 10) rfl) rfl
theorem q_3_11 : Cond.code yX1_sweep (prog_3_method_13_code) 17 (Option.some FieldType.long) ∈ lw_ws := qx_3 (List.mem_of_getElem? (i := 11) rfl) rfl
theorem q_3_12 : Cond.methodLink "SoundDesk$Laws" 80 yX9_last ∈ lw_ws := qx_3 (List.mem_of_getElem? (i := 12) rfl) rfl
theorem q_3_13 : Cond.static yX9_last ∈ lw_ws := qx_3 (List.mem_of_getElem? (i := 13) rfl) rfl
theorem q_3_14 : Cond.code yX9_last (prog_11_method_4_code) 2 (Option.some FieldType.int) ∈ lw_ws := qx_3 (List.mem_of_getElem? (i := 14) rfl) rfl
theorem q_3_15 : Cond.constantLong "SoundDesk$Words" 11 (7) ∈ lw_ws := qx_3 (List.mem_of_getElem? (i := 15) rfl) rfl
theorem q_3_16 : Cond.methodLink "SoundDesk$Laws" 84 yX9_withoutLast ∈ lw_ws := qx_3 (List.mem_of_getElem? (i := 16) rfl) rfl
theorem q_3_17 : Cond.methodLink "SoundDesk$Laws" 87 yX1_isIn ∈ lw_ws := qx_3 (List.mem_of_getElem? (i := 17) rfl) rfl
theorem q_3_18 : Cond.static yX1_isIn ∈ lw_ws := qx_3 (List.mem_of_getElem? (i := 18) rfl) rfl
theorem q_3_19 : Cond.code yX1_isIn (prog_3_method_14_code) 2 (Option.some FieldType.boolean) ∈ lw_ws := qx_3 (List.mem_of_getElem? (i := 19) rfl) rfl
theorem q_3_20 : Cond.methodLink "SoundDesk$Laws" 91 yX1_addChanged ∈ lw_ws := qx_3 (List.mem_of_getElem? (i := 20) rfl) rfl
theorem q_3_22 : Cond.instanceMethod yX1_addChanged ∈ lw_ws := qx_3 (List.mem_of_getElem? (i := 22) rfl) rfl
theorem q_3_23 : Cond.code yX1_addChanged (prog_3_method_15_code) 5 (Option.some FieldType.long) ∈ lw_ws := qx_3 (List.mem_of_getElem? (i := 23) rfl) rfl
theorem q_3_24 : Cond.methodLink "SoundDesk$Laws" 95 yX9_add ∈ lw_ws := qx_3 (List.mem_of_getElem? (i := 24) rfl) rfl
theorem q_3_25 : Cond.methodLink "SoundDesk$Laws" 99 yX9_isTooLong ∈ lw_ws := qx_3 (List.mem_of_getElem? (i := 25) rfl) rfl
theorem q_3_26 : Cond.static yX9_isTooLong ∈ lw_ws := qx_3 (List.mem_of_getElem? (i := 26) rfl) rfl
theorem q_3_27 : Cond.code yX9_isTooLong (prog_11_method_2_code) 2 (Option.some FieldType.boolean) ∈ lw_ws := qx_3 (List.mem_of_getElem? (i := 27) rfl) rfl
theorem q_3_28 : Cond.constantLong "SoundDesk$Words" 9 (2251799813685248) ∈ lw_ws := qx_3 (List.mem_of_getElem? (i := 28) rfl) rfl
theorem q_3_29 : Cond.methodLink "SoundDesk$Laws" 76 yX9_turned ∈ lw_ws := qx_3 (List.mem_of_getElem? (i := 29) rfl) rfl
theorem q_3_30 : Cond.static yX9_turned ∈ lw_ws := qx_3 (List.mem_of_getElem? (i := 30) rfl) rfl
theorem q_3_31 : Cond.code yX9_turned (prog_11_method_8_code) 7 (Option.some FieldType.long) ∈ lw_ws := qx_3 (List.mem_of_getElem? (i := 31) rfl) rfl
theorem q_3_32 : Cond.methodLink "SoundDesk$Words" 21 yX9_last ∈ lw_ws := qx_3 (List.mem_of_getElem? (i := 32) rfl) rfl
theorem q_3_33 : Cond.methodLink "SoundDesk$Words" 24 yX9_add ∈ lw_ws := qx_3 (List.mem_of_getElem? (i := 33) rfl) rfl
theorem q_3_34 : Cond.methodLink "SoundDesk" 186 yX3_copyFrom ∈ lw_ws := qx_3 (List.mem_of_getElem? (i := 34) rfl) rfl
theorem q_3_35 : Cond.instanceMethod yX3_copyFrom ∈ lw_ws := qx_3 (List.mem_of_getElem? (i := 35) rfl) rfl
theorem q_3_36 : Cond.selects "SoundDesk$Path" yX3_copyFrom yX3_copyFrom ∈ lw_ws := qx_3 (List.mem_of_getElem? (i := 36) rfl) rfl
theorem q_3_37 : Cond.code yX3_copyFrom (prog_5_method_2_code) 2 (Option.none : Option FieldType) ∈ lw_ws := qx_3 (List.mem_of_getElem? (i := 37) rfl) rfl
theorem q_3_38 : Cond.methodLink "SoundDesk$Path" 23 arraycopyName ∈ lw_ws := qx_3 (List.mem_of_getElem? (i := 38) rfl) rfl
theorem q_3_39 : Cond.methodLink "SoundDesk" 192 yX10_shown ∈ lw_ws := qx_3 (List.mem_of_getElem? (i := 39) rfl) rfl
theorem q_3_41 : Cond.instanceMethod yX10_shown ∈ lw_ws := qx_3 (List.mem_of_getElem? (i := 41) rfl) rfl
theorem q_3_42 : Cond.code yX10_shown (prog_1_method_38_code) 3 (Option.some FieldType.int) ∈ lw_ws := qx_3 (List.mem_of_getElem? (i := 42) rfl) rfl
theorem q_3_43 : Cond.methodLink "SoundDeskLaw" 78 yX10_step ∈ lw_ws := qx_3 (List.mem_of_getElem? (i := 43) rfl) rfl
theorem q_3_44 : Cond.instanceMethod yX10_step ∈ lw_ws := qx_3 (List.mem_of_getElem? (i := 44) rfl) rfl
theorem q_3_45 : Cond.selects "SoundDesk" yX10_step yX10_step ∈ lw_ws := qx_3 (List.mem_of_getElem? (i := 45) rfl) rfl
theorem q_3_46 : Cond.code yX10_step (prog_1_method_17_code) 2 (Option.some FieldType.int) ∈ lw_ws := qx_3 (List.mem_of_getElem? (i := 46) rfl) rfl
theorem q_3_47 : Cond.methodLink "SoundDesk" 195 yX3_has ∈ lw_ws := qx_3 (List.mem_of_getElem? (i := 47) rfl) rfl
theorem q_3_48 : Cond.instanceMethod yX3_has ∈ lw_ws := qx_3 (List.mem_of_getElem? (i := 48) rfl) rfl
theorem q_3_49 : Cond.selects "SoundDesk$Path" yX3_has yX3_has ∈ lw_ws := qx_3 (List.mem_of_getElem? (i := 49) rfl) rfl
theorem q_3_50 : Cond.code yX3_has (prog_5_method_3_code) 2 (Option.some FieldType.boolean) ∈ lw_ws := qx_3 (List.mem_of_getElem? (i := 50) rfl) rfl
theorem q_3_51 : Cond.methodLink "SoundDeskLaw" 82 yX10_places ∈ lw_ws := qx_3 (List.mem_of_getElem? (i := 51) rfl) rfl
theorem q_3_52 : Cond.instanceMethod yX10_places ∈ lw_ws := qx_3 (List.mem_of_getElem? (i := 52) rfl) rfl
theorem q_3_53 : Cond.selects "SoundDesk" yX10_places yX10_places ∈ lw_ws := qx_3 (List.mem_of_getElem? (i := 53) rfl) rfl
theorem q_3_54 : Cond.code yX10_places (prog_1_method_18_code) 2 (Option.some FieldType.int) ∈ lw_ws := qx_3 (List.mem_of_getElem? (i := 54) rfl) rfl
theorem q_3_55 : Cond.methodLink "SoundDeskLaw" 86 yX10_back ∈ lw_ws := qx_3 (List.mem_of_getElem? (i := 55) rfl) rfl
theorem q_3_56 : Cond.instanceMethod yX10_back ∈ lw_ws := qx_3 (List.mem_of_getElem? (i := 56) rfl) rfl
theorem q_3_57 : Cond.selects "SoundDesk" yX10_back yX10_back ∈ lw_ws := qx_3 (List.mem_of_getElem? (i := 57) rfl) rfl
theorem q_3_58 : Cond.code yX10_back (prog_1_method_19_code) 3 (Option.some FieldType.int) ∈ lw_ws := qx_3 (List.mem_of_getElem? (i := 58) rfl) rfl
theorem q_3_59 : Cond.methodLink "SoundDesk" 202 yX10_isTried ∈ lw_ws := qx_3 (List.mem_of_getElem? (i := 59) rfl) rfl
theorem q_3_60 : Cond.static yX10_isTried ∈ lw_ws := qx_3 (List.mem_of_getElem? (i := 60) rfl) rfl
theorem q_3_61 : Cond.code yX10_isTried (prog_1_method_39_code) 1 (Option.some FieldType.boolean) ∈ lw_ws := qx_3 (List.mem_of_getElem? (i := 61) rfl) rfl
theorem q_3_62 : Cond.methodLink "SoundDesk" 205 yX0_countLeadingHere ∈ lw_ws := qx_3 (List.mem_of_getElem? (i := 62) rfl) rfl
theorem q_3_63 : Cond.instanceMethod yX0_countLeadingHere ∈ lw_ws := qx_3 (List.mem_of_getElem? (i := 63) rfl) rfl
theorem q_3_64 : Cond.selects "SoundDesk$Finder" yX0_countLeadingHere yX0_countLeadingHere ∈ lw_ws := qx_3 (List.mem_of_getElem? (i := 64) rfl) rfl
theorem q_3_65 : Cond.code yX0_countLeadingHere (prog_2_method_3_code) 9 (Option.some FieldType.int) ∈ lw_ws := qx_3 (List.mem_of_getElem? (i := 65) rfl) rfl
theorem q_3_66 : Cond.methodLink "SoundDesk$Finder" 107 yX9_howMany ∈ lw_ws := qx_3 (List.mem_of_getElem? (i := 66) rfl) rfl
theorem q_3_67 : Cond.static yX9_howMany ∈ lw_ws := qx_3 (List.mem_of_getElem? (i := 67) rfl) rfl
theorem q_3_68 : Cond.code yX9_howMany (prog_11_method_9_code) 5 (Option.some FieldType.int) ∈ lw_ws := qx_3 (List.mem_of_getElem? (i := 68) rfl) rfl
theorem q_3_69 : Cond.methodLink "SoundDesk$Finder" 111 yX4_leadAlong ∈ lw_ws := qx_3 (List.mem_of_getElem? (i := 69) rfl) rfl
theorem q_3_70 : Cond.instanceMethod yX4_leadAlong ∈ lw_ws := qx_3 (List.mem_of_getElem? (i := 70) rfl) rfl
theorem q_3_71 : Cond.selects "SoundDesk$Row" yX4_leadAlong yX4_leadAlong ∈ lw_ws := qx_3 (List.mem_of_getElem? (i := 71) rfl) rfl
theorem q_3_72 : Cond.code yX4_leadAlong (prog_6_method_4_code) 7 (Option.some FieldType.long) ∈ lw_ws := qx_3 (List.mem_of_getElem? (i := 72) rfl) rfl
theorem q_3_73 : Cond.methodLink "SoundDesk$Row" 42 yX1_lead ∈ lw_ws := qx_3 (List.mem_of_getElem? (i := 73) rfl) rfl
theorem q_3_74 : Cond.methodLink "SoundDesk$Finder" 115 yX0_showFirst ∈ lw_ws := qx_3 (List.mem_of_getElem? (i := 74) rfl) rfl
theorem q_3_76 : Cond.instanceMethod yX0_showFirst ∈ lw_ws := qx_3 (List.mem_of_getElem? (i := 76) rfl) rfl
theorem q_3_77 : Cond.code yX0_showFirst (prog_2_method_6_code) 4 (Option.none : Option FieldType) ∈ lw_ws := qx_3 (List.mem_of_getElem? (i := 77) rfl) rfl
theorem q_3_78 : Cond.methodLink "SoundDesk$Finder" 119 yX9_next ∈ lw_ws := qx_3 (List.mem_of_getElem? (i := 78) rfl) rfl
theorem q_3_79 : Cond.static yX9_next ∈ lw_ws := qx_3 (List.mem_of_getElem? (i := 79) rfl) rfl
theorem q_3_80 : Cond.code yX9_next (prog_11_method_10_code) 7 (Option.some FieldType.long) ∈ lw_ws := qx_3 (List.mem_of_getElem? (i := 80) rfl) rfl
theorem q_3_81 : Cond.methodLink "SoundDeskLaw" 90 yX10_differ ∈ lw_ws := qx_3 (List.mem_of_getElem? (i := 81) rfl) rfl
theorem q_3_82 : Cond.instanceMethod yX10_differ ∈ lw_ws := qx_3 (List.mem_of_getElem? (i := 82) rfl) rfl
theorem q_3_83 : Cond.selects "SoundDesk" yX10_differ yX10_differ ∈ lw_ws := qx_3 (List.mem_of_getElem? (i := 83) rfl) rfl
theorem q_3_84 : Cond.code yX10_differ (prog_1_method_20_code) 6 (Option.some FieldType.int) ∈ lw_ws := qx_3 (List.mem_of_getElem? (i := 84) rfl) rfl
theorem q_3_85 : Cond.methodLink "SoundDesk" 208 yX0_firstLedApart ∈ lw_ws := qx_3 (List.mem_of_getElem? (i := 85) rfl) rfl
theorem q_3_86 : Cond.instanceMethod yX0_firstLedApart ∈ lw_ws := qx_3 (List.mem_of_getElem? (i := 86) rfl) rfl
theorem q_3_87 : Cond.selects "SoundDesk$Finder" yX0_firstLedApart yX0_firstLedApart ∈ lw_ws := qx_3 (List.mem_of_getElem? (i := 87) rfl) rfl
theorem q_3_88 : Cond.code yX0_firstLedApart (prog_2_method_4_code) 9 (Option.some FieldType.long) ∈ lw_ws := qx_3 (List.mem_of_getElem? (i := 88) rfl) rfl
theorem q_3_89 : Cond.methodLink "SoundDeskLaw" 94 yX10_loses ∈ lw_ws := qx_3 (List.mem_of_getElem? (i := 89) rfl) rfl
theorem q_3_90 : Cond.instanceMethod yX10_loses ∈ lw_ws := qx_3 (List.mem_of_getElem? (i := 90) rfl) rfl
theorem q_3_91 : Cond.selects "SoundDesk" yX10_loses yX10_loses ∈ lw_ws := qx_3 (List.mem_of_getElem? (i := 91) rfl) rfl
theorem q_3_92 : Cond.code yX10_loses (prog_1_method_21_code) 3 (Option.some FieldType.int) ∈ lw_ws := qx_3 (List.mem_of_getElem? (i := 92) rfl) rfl
theorem q_3_93 : Cond.methodLink "SoundDesk" 212 yX0_countLost ∈ lw_ws := qx_3 (List.mem_of_getElem? (i := 93) rfl) rfl
theorem q_3_94 : Cond.instanceMethod yX0_countLost ∈ lw_ws := qx_3 (List.mem_of_getElem? (i := 94) rfl) rfl
theorem q_3_95 : Cond.selects "SoundDesk$Finder" yX0_countLost yX0_countLost ∈ lw_ws := qx_3 (List.mem_of_getElem? (i := 95) rfl) rfl
theorem q_3_96 : Cond.code yX0_countLost (prog_2_method_5_code) 11 (Option.some FieldType.int) ∈ lw_ws := qx_3 (List.mem_of_getElem? (i := 96) rfl) rfl
theorem q_3_97 : Cond.methodLink "SoundDesk$Finder" 123 yX8_clear ∈ lw_ws := qx_3 (List.mem_of_getElem? (i := 97) rfl) rfl
theorem q_3_98 : Cond.instanceMethod yX8_clear ∈ lw_ws := qx_3 (List.mem_of_getElem? (i := 98) rfl) rfl
theorem q_3_99 : Cond.selects "SoundDesk$WordSet" yX8_clear yX8_clear ∈ lw_ws := qx_3 (List.mem_of_getElem? (i := 99) rfl) rfl
theorem q_3_100 : Cond.code yX8_clear (prog_10_method_2_code) 1 (Option.none : Option FieldType) ∈ lw_ws := qx_3 (List.mem_of_getElem? (i := 100) rfl) rfl
theorem q_3_101 : Cond.methodLink "SoundDesk$WordSet" 15 yJ7_fill_d0a16 ∈ lw_ws := qx_3 (List.mem_of_getElem? (i := 101) rfl) rfl
theorem q_3_102 : Cond.static yJ7_fill_d0a16 ∈ lw_ws := qx_3 (List.mem_of_getElem? (i := 102) rfl) rfl
theorem q_3_103 : Cond.code yJ7_fill_d0a16 (prog_17_method_101_code) 5 (Option.none : Option FieldType) ∈ lw_ws := qx_3 (List.mem_of_getElem? (i := 103) rfl) rfl
theorem q_3_104 : Cond.methodLink "SoundDesk$Finder" 126 yX8_isNew ∈ lw_ws := qx_3 (List.mem_of_getElem? (i := 104) rfl) rfl
theorem q_3_105 : Cond.instanceMethod yX8_isNew ∈ lw_ws := qx_3 (List.mem_of_getElem? (i := 105) rfl) rfl
theorem q_3_106 : Cond.selects "SoundDesk$WordSet" yX8_isNew yX8_isNew ∈ lw_ws := qx_3 (List.mem_of_getElem? (i := 106) rfl) rfl
theorem q_3_107 : Cond.code yX8_isNew (prog_10_method_3_code) 6 (Option.some FieldType.boolean) ∈ lw_ws := qx_3 (List.mem_of_getElem? (i := 107) rfl) rfl
theorem q_3_108 : Cond.constantLong "SoundDesk$WordSet" 21 (-7046029254386353131) ∈ lw_ws := qx_3 (List.mem_of_getElem? (i := 108) rfl) rfl
theorem q_3_109 : Cond.methodLink "SoundDeskLaw" 98 yX10_stand ∈ lw_ws := qx_3 (List.mem_of_getElem? (i := 109) rfl) rfl
theorem q_3_110 : Cond.instanceMethod yX10_stand ∈ lw_ws := qx_3 (List.mem_of_getElem? (i := 110) rfl) rfl
theorem q_3_111 : Cond.selects "SoundDesk" yX10_stand yX10_stand ∈ lw_ws := qx_3 (List.mem_of_getElem? (i := 111) rfl) rfl
theorem q_3_112 : Cond.code yX10_stand (prog_1_method_22_code) 4 (Option.some FieldType.int) ∈ lw_ws := qx_3 (List.mem_of_getElem? (i := 112) rfl) rfl
theorem q_3_113 : Cond.methodLink "SoundDesk" 219 yX0_standing ∈ lw_ws := qx_3 (List.mem_of_getElem? (i := 113) rfl) rfl
theorem q_3_114 : Cond.instanceMethod yX0_standing ∈ lw_ws := qx_3 (List.mem_of_getElem? (i := 114) rfl) rfl
theorem q_3_115 : Cond.selects "SoundDesk$Finder" yX0_standing yX0_standing ∈ lw_ws := qx_3 (List.mem_of_getElem? (i := 115) rfl) rfl
theorem q_3_116 : Cond.code yX0_standing (prog_2_method_7_code) 19 (Option.some FieldType.int) ∈ lw_ws := qx_3 (List.mem_of_getElem? (i := 116) rfl) rfl
theorem q_3_117 : Cond.methodLink "SoundDeskLaw" 102 yX10_meaning ∈ lw_ws := qx_3 (List.mem_of_getElem? (i := 117) rfl) rfl
theorem q_3_118 : Cond.instanceMethod yX10_meaning ∈ lw_ws := qx_3 (List.mem_of_getElem? (i := 118) rfl) rfl
theorem q_3_119 : Cond.selects "SoundDesk" yX10_meaning yX10_meaning ∈ lw_ws := qx_3 (List.mem_of_getElem? (i := 119) rfl) rfl
theorem q_3_120 : Cond.code yX10_meaning (prog_1_method_23_code) 1 (Option.some FieldType.int) ∈ lw_ws := qx_3 (List.mem_of_getElem? (i := 120) rfl) rfl
theorem q_3_121 : Cond.methodLink "SoundDesk" 229 yX2_add ∈ lw_ws := qx_3 (List.mem_of_getElem? (i := 121) rfl) rfl
theorem q_3_122 : Cond.instanceMethod yX2_add ∈ lw_ws := qx_3 (List.mem_of_getElem? (i := 122) rfl) rfl
theorem q_3_123 : Cond.selects "SoundDesk$Meanings" yX2_add yX2_add ∈ lw_ws := qx_3 (List.mem_of_getElem? (i := 123) rfl) rfl
theorem q_3_124 : Cond.code yX2_add (prog_4_method_4_code) 3 (Option.some FieldType.int) ∈ lw_ws := qx_3 (List.mem_of_getElem? (i := 124) rfl) rfl
theorem q_3_125 : Cond.methodLink "SoundDeskLaw" 106 yX10_form ∈ lw_ws := qx_3 (List.mem_of_getElem? (i := 125) rfl) rfl
theorem q_3_126 : Cond.instanceMethod yX10_form ∈ lw_ws := qx_3 (List.mem_of_getElem? (i := 126) rfl) rfl
theorem q_3_127 : Cond.selects "SoundDesk" yX10_form yX10_form ∈ lw_ws := qx_3 (List.mem_of_getElem? (i := 127) rfl) rfl
theorem q_3_128 : Cond.code yX10_form (prog_1_method_24_code) 3 (Option.some FieldType.int) ∈ lw_ws := qx_3 (List.mem_of_getElem? (i := 128) rfl) rfl
theorem q_3_129 : Cond.methodLink "SoundDesk" 232 yX2_has ∈ lw_ws := qx_3 (List.mem_of_getElem? (i := 129) rfl) rfl
theorem q_3_130 : Cond.instanceMethod yX2_has ∈ lw_ws := qx_3 (List.mem_of_getElem? (i := 130) rfl) rfl
theorem q_3_131 : Cond.selects "SoundDesk$Meanings" yX2_has yX2_has ∈ lw_ws := qx_3 (List.mem_of_getElem? (i := 131) rfl) rfl
theorem q_3_132 : Cond.code yX2_has (prog_4_method_3_code) 2 (Option.some FieldType.boolean) ∈ lw_ws := qx_3 (List.mem_of_getElem? (i := 132) rfl) rfl
theorem q_3_133 : Cond.methodLink "SoundDesk" 237 yX2_countForms ∈ lw_ws := qx_3 (List.mem_of_getElem? (i := 133) rfl) rfl
theorem q_3_134 : Cond.instanceMethod yX2_countForms ∈ lw_ws := qx_3 (List.mem_of_getElem? (i := 134) rfl) rfl
theorem q_3_135 : Cond.selects "SoundDesk$Meanings" yX2_countForms yX2_countForms ∈ lw_ws := qx_3 (List.mem_of_getElem? (i := 135) rfl) rfl
theorem q_3_136 : Cond.code yX2_countForms (prog_4_method_5_code) 4 (Option.some FieldType.int) ∈ lw_ws := qx_3 (List.mem_of_getElem? (i := 136) rfl) rfl
theorem q_3_137 : Cond.methodLink "SoundDeskLaw" 110 yX10_roots ∈ lw_ws := qx_3 (List.mem_of_getElem? (i := 137) rfl) rfl
theorem q_3_138 : Cond.instanceMethod yX10_roots ∈ lw_ws := qx_3 (List.mem_of_getElem? (i := 138) rfl) rfl
theorem q_3_139 : Cond.selects "SoundDesk" yX10_roots yX10_roots ∈ lw_ws := qx_3 (List.mem_of_getElem? (i := 139) rfl) rfl
theorem q_3_140 : Cond.code yX10_roots (prog_1_method_25_code) 3 (Option.some FieldType.int) ∈ lw_ws := qx_3 (List.mem_of_getElem? (i := 140) rfl) rfl
theorem q_3_141 : Cond.methodLink "SoundDesk" 240 yX0_countRoots ∈ lw_ws := qx_3 (List.mem_of_getElem? (i := 141) rfl) rfl
theorem q_3_142 : Cond.instanceMethod yX0_countRoots ∈ lw_ws := qx_3 (List.mem_of_getElem? (i := 142) rfl) rfl
theorem q_3_143 : Cond.selects "SoundDesk$Finder" yX0_countRoots yX0_countRoots ∈ lw_ws := qx_3 (List.mem_of_getElem? (i := 143) rfl) rfl
theorem q_3_144 : Cond.code yX0_countRoots (prog_2_method_9_code) 9 (Option.some FieldType.int) ∈ lw_ws := qx_3 (List.mem_of_getElem? (i := 144) rfl) rfl
theorem q_3_145 : Cond.methodLink "SoundDesk$Finder" 144 yX0_leadByAll ∈ lw_ws := qx_3 (List.mem_of_getElem? (i := 145) rfl) rfl
theorem q_3_147 : Cond.instanceMethod yX0_leadByAll ∈ lw_ws := qx_3 (List.mem_of_getElem? (i := 147) rfl) rfl
theorem q_3_148 : Cond.code yX0_leadByAll (prog_2_method_8_code) 8 (Option.none : Option FieldType) ∈ lw_ws := qx_3 (List.mem_of_getElem? (i := 148) rfl) rfl
theorem q_3_149 : Cond.methodLink "SoundDesk$Finder" 152 yX2_isRooted ∈ lw_ws := qx_3 (List.mem_of_getElem? (i := 149) rfl) rfl
theorem q_3_150 : Cond.instanceMethod yX2_isRooted ∈ lw_ws := qx_3 (List.mem_of_getElem? (i := 150) rfl) rfl
theorem q_3_151 : Cond.selects "SoundDesk$Meanings" yX2_isRooted yX2_isRooted ∈ lw_ws := qx_3 (List.mem_of_getElem? (i := 151) rfl) rfl
theorem q_3_152 : Cond.code yX2_isRooted (prog_4_method_7_code) 4 (Option.some FieldType.boolean) ∈ lw_ws := qx_3 (List.mem_of_getElem? (i := 152) rfl) rfl
theorem q_3_153 : Cond.methodLink "SoundDesk$Meanings" 28 yX2_countForms ∈ lw_ws := qx_3 (List.mem_of_getElem? (i := 153) rfl) rfl
theorem q_3_154 : Cond.methodLink "SoundDesk$Meanings" 32 yX2_countAgreeing ∈ lw_ws := qx_3 (List.mem_of_getElem? (i := 154) rfl) rfl
theorem q_3_155 : Cond.instanceMethod yX2_countAgreeing ∈ lw_ws := qx_3 (List.mem_of_getElem? (i := 155) rfl) rfl
theorem q_3_156 : Cond.selects "SoundDesk$Meanings" yX2_countAgreeing yX2_countAgreeing ∈ lw_ws := qx_3 (List.mem_of_getElem? (i := 156) rfl) rfl
theorem q_3_157 : Cond.code yX2_countAgreeing (prog_4_method_6_code) 5 (Option.some FieldType.int) ∈ lw_ws := qx_3 (List.mem_of_getElem? (i := 157) rfl) rfl
theorem q_3_158 : Cond.methodLink "SoundDeskLaw" 114 yX10_some ∈ lw_ws := qx_3 (List.mem_of_getElem? (i := 158) rfl) rfl
theorem q_3_159 : Cond.instanceMethod yX10_some ∈ lw_ws := qx_3 (List.mem_of_getElem? (i := 159) rfl) rfl
theorem q_3_160 : Cond.selects "SoundDesk" yX10_some yX10_some ∈ lw_ws := qx_3 (List.mem_of_getElem? (i := 160) rfl) rfl
theorem q_3_161 : Cond.code yX10_some (prog_1_method_26_code) 3 (Option.some FieldType.int) ∈ lw_ws := qx_3 (List.mem_of_getElem? (i := 161) rfl) rfl
theorem q_3_162 : Cond.methodLink "SoundDesk" 243 yX0_mostAgreeing ∈ lw_ws := qx_3 (List.mem_of_getElem? (i := 162) rfl) rfl
theorem q_3_163 : Cond.instanceMethod yX0_mostAgreeing ∈ lw_ws := qx_3 (List.mem_of_getElem? (i := 163) rfl) rfl
theorem q_3_164 : Cond.selects "SoundDesk$Finder" yX0_mostAgreeing yX0_mostAgreeing ∈ lw_ws := qx_3 (List.mem_of_getElem? (i := 164) rfl) rfl
theorem q_3_165 : Cond.code yX0_mostAgreeing (prog_2_method_10_code) 10 (Option.some FieldType.int) ∈ lw_ws := qx_3 (List.mem_of_getElem? (i := 165) rfl) rfl
theorem q_3_166 : Cond.methodLink "SoundDesk$Finder" 158 yX2_countAgreeing ∈ lw_ws := qx_3 (List.mem_of_getElem? (i := 166) rfl) rfl
theorem q_3_167 : Cond.methodLink "SoundDeskLaw" 118 yX10_explain ∈ lw_ws := qx_3 (List.mem_of_getElem? (i := 167) rfl) rfl
theorem q_3_168 : Cond.instanceMethod yX10_explain ∈ lw_ws := qx_3 (List.mem_of_getElem? (i := 168) rfl) rfl
theorem q_3_169 : Cond.selects "SoundDesk" yX10_explain yX10_explain ∈ lw_ws := qx_3 (List.mem_of_getElem? (i := 169) rfl) rfl
theorem q_3_170 : Cond.code yX10_explain (prog_1_method_27_code) 2 (Option.some FieldType.int) ∈ lw_ws := qx_3 (List.mem_of_getElem? (i := 170) rfl) rfl
theorem q_3_171 : Cond.methodLink "SoundDesk" 246 yX0_countExplained ∈ lw_ws := qx_3 (List.mem_of_getElem? (i := 171) rfl) rfl
theorem q_3_172 : Cond.instanceMethod yX0_countExplained ∈ lw_ws := qx_3 (List.mem_of_getElem? (i := 172) rfl) rfl
theorem q_3_173 : Cond.selects "SoundDesk$Finder" yX0_countExplained yX0_countExplained ∈ lw_ws := qx_3 (List.mem_of_getElem? (i := 173) rfl) rfl
theorem q_3_174 : Cond.code yX0_countExplained (prog_2_method_11_code) 10 (Option.some FieldType.int) ∈ lw_ws := qx_3 (List.mem_of_getElem? (i := 174) rfl) rfl
theorem q_3_175 : Cond.methodLink "SoundDesk$Finder" 162 yX2_withForms ∈ lw_ws := qx_3 (List.mem_of_getElem? (i := 175) rfl) rfl
theorem q_3_176 : Cond.instanceMethod yX2_withForms ∈ lw_ws := qx_3 (List.mem_of_getElem? (i := 176) rfl) rfl
theorem q_3_177 : Cond.selects "SoundDesk$Meanings" yX2_withForms yX2_withForms ∈ lw_ws := qx_3 (List.mem_of_getElem? (i := 177) rfl) rfl
theorem q_3_178 : Cond.code yX2_withForms (prog_4_method_8_code) 3 (Option.some FieldType.int) ∈ lw_ws := qx_3 (List.mem_of_getElem? (i := 178) rfl) rfl
theorem q_3_179 : Cond.methodLink "SoundDesk$Finder" 167 yJ6_bitCount_0f7a4 ∈ lw_ws := qx_3 (List.mem_of_getElem? (i := 179) rfl) rfl
theorem q_3_180 : Cond.static yJ6_bitCount_0f7a4 ∈ lw_ws := qx_3 (List.mem_of_getElem? (i := 180) rfl) rfl
theorem q_3_181 : Cond.code yJ6_bitCount_0f7a4 (prog_14_method_49_code) 1 (Option.some FieldType.int) ∈ lw_ws := qx_3 (List.mem_of_getElem? (i := 181) rfl) rfl
theorem q_3_182 : Cond.constant "java/lang/Integer" 265 (1431655765) ∈ lw_ws := qx_3 (List.mem_of_getElem? (i := 182) rfl) rfl
theorem q_3_183 : Cond.constant "java/lang/Integer" 266 (858993459) ∈ lw_ws := qx_3 (List.mem_of_getElem? (i := 183) rfl) rfl
theorem q_3_184 : Cond.constant "java/lang/Integer" 267 (252645135) ∈ lw_ws := qx_3 (List.mem_of_getElem? (i := 184) rfl) rfl
theorem q_3_185 : Cond.methodLink "SoundDeskLaw" 122 yX10_order ∈ lw_ws := qx_3 (List.mem_of_getElem? (i := 185) rfl) rfl
theorem q_3_186 : Cond.instanceMethod yX10_order ∈ lw_ws := qx_3 (List.mem_of_getElem? (i := 186) rfl) rfl
theorem q_3_187 : Cond.selects "SoundDesk" yX10_order yX10_order ∈ lw_ws := qx_3 (List.mem_of_getElem? (i := 187) rfl) rfl
theorem q_3_188 : Cond.code yX10_order (prog_1_method_28_code) 3 (Option.some FieldType.int) ∈ lw_ws := qx_3 (List.mem_of_getElem? (i := 188) rfl) rfl
theorem q_3_189 : Cond.methodLink "SoundDesk" 249 yX10_isArranged ∈ lw_ws := qx_3 (List.mem_of_getElem? (i := 189) rfl) rfl
theorem q_3_190 : Cond.static yX10_isArranged ∈ lw_ws := qx_3 (List.mem_of_getElem? (i := 190) rfl) rfl
theorem q_3_191 : Cond.code yX10_isArranged (prog_1_method_40_code) 1 (Option.some FieldType.boolean) ∈ lw_ws := qx_3 (List.mem_of_getElem? (i := 191) rfl) rfl
theorem q_3_192 : Cond.methodLink "SoundDesk" 252 yX0_arrange ∈ lw_ws := qx_3 (List.mem_of_getElem? (i := 192) rfl) rfl
theorem q_3_193 : Cond.instanceMethod yX0_arrange ∈ lw_ws := qx_3 (List.mem_of_getElem? (i := 193) rfl) rfl
theorem q_3_194 : Cond.selects "SoundDesk$Finder" yX0_arrange yX0_arrange ∈ lw_ws := qx_3 (List.mem_of_getElem? (i := 194) rfl) rfl
theorem q_3_195 : Cond.code yX0_arrange (prog_2_method_12_code) 7 (Option.some FieldType.int) ∈ lw_ws := qx_3 (List.mem_of_getElem? (i := 195) rfl) rfl
theorem q_3_196 : Cond.methodLink "SoundDesk$Finder" 173 yX0_noteStandingLaws ∈ lw_ws := qx_3 (List.mem_of_getElem? (i := 196) rfl) rfl
theorem q_3_198 : Cond.instanceMethod yX0_noteStandingLaws ∈ lw_ws := qx_3 (List.mem_of_getElem? (i := 198) rfl) rfl
theorem q_3_199 : Cond.code yX0_noteStandingLaws (prog_2_method_13_code) 4 (Option.none : Option FieldType) ∈ lw_ws := qx_3 (List.mem_of_getElem? (i := 199) rfl) rfl
theorem q_3_200 : Cond.methodLink "SoundDesk$Finder" 177 yX0_seat ∈ lw_ws := qx_3 (List.mem_of_getElem? (i := 200) rfl) rfl
theorem q_3_202 : Cond.instanceMethod yX0_seat ∈ lw_ws := qx_3 (List.mem_of_getElem? (i := 202) rfl) rfl
theorem q_3_203 : Cond.code yX0_seat (prog_2_method_14_code) 5 (Option.none : Option FieldType) ∈ lw_ws := qx_3 (List.mem_of_getElem? (i := 203) rfl) rfl
theorem q_3_204 : Cond.methodLink "SoundDesk$Finder" 181 yX0_countExplained ∈ lw_ws := qx_3 (List.mem_of_getElem? (i := 204) rfl) rfl
theorem q_3_205 : Cond.methodLink "SoundDesk$Finder" 184 arraycopyName ∈ lw_ws := qx_3 (List.mem_of_getElem? (i := 205) rfl) rfl
theorem q_3_206 : Cond.methodLink "SoundDesk$Finder" 190 yX0_nextSeats ∈ lw_ws := qx_3 (List.mem_of_getElem? (i := 206) rfl) rfl
theorem q_3_208 : Cond.instanceMethod yX0_nextSeats ∈ lw_ws := qx_3 (List.mem_of_getElem? (i := 208) rfl) rfl
theorem q_3_209 : Cond.code yX0_nextSeats (prog_2_method_15_code) 6 (Option.some FieldType.boolean) ∈ lw_ws := qx_3 (List.mem_of_getElem? (i := 209) rfl) rfl
theorem q_3_210 : Cond.methodLink "SoundDesk$Finder" 194 yX0_exchangeSeats ∈ lw_ws := qx_3 (List.mem_of_getElem? (i := 210) rfl) rfl
theorem q_3_212 : Cond.instanceMethod yX0_exchangeSeats ∈ lw_ws := qx_3 (List.mem_of_getElem? (i := 212) rfl) rfl
theorem q_3_213 : Cond.code yX0_exchangeSeats (prog_2_method_16_code) 4 (Option.none : Option FieldType) ∈ lw_ws := qx_3 (List.mem_of_getElem? (i := 213) rfl) rfl
theorem q_3_214 : Cond.methodLink "SoundDeskLaw" 126 yX10_few ∈ lw_ws := qx_3 (List.mem_of_getElem? (i := 214) rfl) rfl
theorem q_3_215 : Cond.instanceMethod yX10_few ∈ lw_ws := qx_3 (List.mem_of_getElem? (i := 215) rfl) rfl
theorem q_3_216 : Cond.selects "SoundDesk" yX10_few yX10_few ∈ lw_ws := qx_3 (List.mem_of_getElem? (i := 216) rfl) rfl
theorem q_3_217 : Cond.code yX10_few (prog_1_method_29_code) 3 (Option.some FieldType.int) ∈ lw_ws := qx_3 (List.mem_of_getElem? (i := 217) rfl) rfl
theorem q_3_218 : Cond.methodLink "SoundDesk" 255 yX0_fewest ∈ lw_ws := qx_3 (List.mem_of_getElem? (i := 218) rfl) rfl
theorem q_3_219 : Cond.instanceMethod yX0_fewest ∈ lw_ws := qx_3 (List.mem_of_getElem? (i := 219) rfl) rfl
theorem q_3_220 : Cond.selects "SoundDesk$Finder" yX0_fewest yX0_fewest ∈ lw_ws := qx_3 (List.mem_of_getElem? (i := 220) rfl) rfl
theorem q_3_221 : Cond.code yX0_fewest (prog_2_method_17_code) 8 (Option.some FieldType.int) ∈ lw_ws := qx_3 (List.mem_of_getElem? (i := 221) rfl) rfl
theorem q_3_222 : Cond.methodLink "SoundDesk$Finder" 197 yX0_choose ∈ lw_ws := qx_3 (List.mem_of_getElem? (i := 222) rfl) rfl
theorem q_3_224 : Cond.instanceMethod yX0_choose ∈ lw_ws := qx_3 (List.mem_of_getElem? (i := 224) rfl) rfl
theorem q_3_225 : Cond.code yX0_choose (prog_2_method_18_code) 6 (Option.none : Option FieldType) ∈ lw_ws := qx_3 (List.mem_of_getElem? (i := 225) rfl) rfl
theorem q_3_226 : Cond.methodLink "SoundDeskLaw" 130 yX10_cost ∈ lw_ws := qx_3 (List.mem_of_getElem? (i := 226) rfl) rfl
theorem q_3_227 : Cond.instanceMethod yX10_cost ∈ lw_ws := qx_3 (List.mem_of_getElem? (i := 227) rfl) rfl
theorem q_3_228 : Cond.selects "SoundDesk" yX10_cost yX10_cost ∈ lw_ws := qx_3 (List.mem_of_getElem? (i := 228) rfl) rfl
theorem q_3_229 : Cond.code yX10_cost (prog_1_method_30_code) 3 (Option.some FieldType.int) ∈ lw_ws := qx_3 (List.mem_of_getElem? (i := 229) rfl) rfl
theorem q_3_230 : Cond.methodLink "SoundDeskLaw" 134 yX10_match ∈ lw_ws := qx_3 (List.mem_of_getElem? (i := 230) rfl) rfl
theorem q_3_231 : Cond.instanceMethod yX10_match ∈ lw_ws := qx_3 (List.mem_of_getElem? (i := 231) rfl) rfl
theorem q_3_232 : Cond.selects "SoundDesk" yX10_match yX10_match ∈ lw_ws := qx_3 (List.mem_of_getElem? (i := 232) rfl) rfl
theorem q_3_233 : Cond.code yX10_match (prog_1_method_31_code) 8 (Option.some FieldType.int) ∈ lw_ws := qx_3 (List.mem_of_getElem? (i := 233) rfl) rfl
theorem q_3_234 : Cond.methodLink "SoundDesk" 261 yX0_leastCost ∈ lw_ws := qx_3 (List.mem_of_getElem? (i := 234) rfl) rfl
theorem q_3_235 : Cond.instanceMethod yX0_leastCost ∈ lw_ws := qx_3 (List.mem_of_getElem? (i := 235) rfl) rfl
theorem q_3_236 : Cond.selects "SoundDesk$Finder" yX0_leastCost yX0_leastCost ∈ lw_ws := qx_3 (List.mem_of_getElem? (i := 236) rfl) rfl
theorem q_3_237 : Cond.code yX0_leastCost (prog_2_method_19_code) 14 (Option.some FieldType.int) ∈ lw_ws := qx_3 (List.mem_of_getElem? (i := 237) rfl) rfl
theorem q_3_238 : Cond.methodLink "SoundDesk$Finder" 204 yX9_size ∈ lw_ws := qx_3 (List.mem_of_getElem? (i := 238) rfl) rfl
theorem q_3_239 : Cond.methodLink "SoundDesk$Finder" 208 yX9_soundAt ∈ lw_ws := qx_3 (List.mem_of_getElem? (i := 239) rfl) rfl
theorem q_4_0 : Cond.methodLink "SoundDesk$Finder" 212 yX5_apart ∈ lw_ws := qx_4 (List.mem_of_getElem? (i := 0) rfl) rfl
theorem q_4_1 : Cond.instanceMethod yX5_apart ∈ lw_ws := qx_4 (List.mem_of_getElem? (i := 1) rfl) rfl
theorem q_4_2 : Cond.selects "SoundDesk$Sounds" yX5_apart yX5_apart ∈ lw_ws := qx_4 (List.mem_of_getElem? (i := 2) rfl) rfl
theorem q_4_3 : Cond.code yX5_apart (prog_7_method_12_code) 3 (Option.some FieldType.int) ∈ lw_ws := qx_4 (List.mem_of_getElem? (i := 3) rfl) rfl
theorem q_4_4 : Cond.methodLink "SoundDesk$Sounds" 40 yJ6_bitCount_0f7a4 ∈ lw_ws := qx_4 (List.mem_of_getElem? (i := 4) rfl) rfl
theorem q_4_5 : Cond.methodLink "SoundDesk$Finder" 215 yJ9_min_7cf53 ∈ lw_ws := qx_4 (List.mem_of_getElem? (i := 5) rfl) rfl
theorem q_4_6 : Cond.static yJ9_min_7cf53 ∈ lw_ws := qx_4 (List.mem_of_getElem? (i := 6) rfl) rfl
theorem q_4_7 : Cond.code yJ9_min_7cf53 (prog_15_method_69_code) 2 (Option.some FieldType.int) ∈ lw_ws := qx_4 (List.mem_of_getElem? (i := 7) rfl) rfl
theorem q_4_8 : Cond.methodLink "SoundDeskLaw" 138 yX10_put ∈ lw_ws := qx_4 (List.mem_of_getElem? (i := 8) rfl) rfl
theorem q_4_9 : Cond.instanceMethod yX10_put ∈ lw_ws := qx_4 (List.mem_of_getElem? (i := 9) rfl) rfl
theorem q_4_10 : Cond.selects "SoundDesk" yX10_put yX10_put ∈ lw_ws := qx_4 (List.mem_of_getElem? (i := 10) rfl) rfl
theorem q_4_11 : Cond.code yX10_put (prog_1_method_32_code) 2 (Option.some FieldType.int) ∈ lw_ws := qx_4 (List.mem_of_getElem? (i := 11) rfl) rfl
theorem q_4_12 : Cond.methodLink "SoundDeskLaw" 142 yX10_check ∈ lw_ws := qx_4 (List.mem_of_getElem? (i := 12) rfl) rfl
theorem q_4_13 : Cond.instanceMethod yX10_check ∈ lw_ws := qx_4 (List.mem_of_getElem? (i := 13) rfl) rfl
theorem q_4_14 : Cond.selects "SoundDesk" yX10_check yX10_check ∈ lw_ws := qx_4 (List.mem_of_getElem? (i := 14) rfl) rfl
theorem q_4_15 : Cond.code yX10_check (prog_1_method_33_code) 3 (Option.some FieldType.int) ∈ lw_ws := qx_4 (List.mem_of_getElem? (i := 15) rfl) rfl
theorem q_4_16 : Cond.methodLink "SoundDesk" 265 yX3_firstWrong ∈ lw_ws := qx_4 (List.mem_of_getElem? (i := 16) rfl) rfl
theorem q_4_17 : Cond.instanceMethod yX3_firstWrong ∈ lw_ws := qx_4 (List.mem_of_getElem? (i := 17) rfl) rfl
theorem q_4_18 : Cond.selects "SoundDesk$Path" yX3_firstWrong yX3_firstWrong ∈ lw_ws := qx_4 (List.mem_of_getElem? (i := 18) rfl) rfl
theorem q_4_19 : Cond.code yX3_firstWrong (prog_5_method_4_code) 5 (Option.some FieldType.int) ∈ lw_ws := qx_4 (List.mem_of_getElem? (i := 19) rfl) rfl
theorem q_4_20 : Cond.methodLink "SoundDesk$Path" 29 yX3_isTold ∈ lw_ws := qx_4 (List.mem_of_getElem? (i := 20) rfl) rfl
theorem q_4_21 : Cond.static yX3_isTold ∈ lw_ws := qx_4 (List.mem_of_getElem? (i := 21) rfl) rfl
theorem q_4_22 : Cond.code yX3_isTold (prog_5_method_5_code) 7 (Option.some FieldType.boolean) ∈ lw_ws := qx_4 (List.mem_of_getElem? (i := 22) rfl) rfl
theorem q_4_23 : Cond.methodLink "SoundDesk$Path" 33 yX9_size ∈ lw_ws := qx_4 (List.mem_of_getElem? (i := 23) rfl) rfl
theorem q_4_24 : Cond.methodLink "SoundDesk$Path" 39 yX9_soundAt ∈ lw_ws := qx_4 (List.mem_of_getElem? (i := 24) rfl) rfl
theorem q_4_25 : Cond.methodLink "SoundDeskLaw" 146 yX10_keep ∈ lw_ws := qx_4 (List.mem_of_getElem? (i := 25) rfl) rfl
theorem q_4_26 : Cond.instanceMethod yX10_keep ∈ lw_ws := qx_4 (List.mem_of_getElem? (i := 26) rfl) rfl
theorem q_4_27 : Cond.selects "SoundDesk" yX10_keep yX10_keep ∈ lw_ws := qx_4 (List.mem_of_getElem? (i := 27) rfl) rfl
theorem q_4_28 : Cond.code yX10_keep (prog_1_method_34_code) 1 (Option.some FieldType.int) ∈ lw_ws := qx_4 (List.mem_of_getElem? (i := 28) rfl) rfl
theorem q_4_29 : Cond.methodLink "SoundDesk" 269 yX6_takeOver ∈ lw_ws := qx_4 (List.mem_of_getElem? (i := 29) rfl) rfl
theorem q_4_30 : Cond.instanceMethod yX6_takeOver ∈ lw_ws := qx_4 (List.mem_of_getElem? (i := 30) rfl) rfl
theorem q_4_31 : Cond.selects "SoundDesk$State" yX6_takeOver yX6_takeOver ∈ lw_ws := qx_4 (List.mem_of_getElem? (i := 31) rfl) rfl
theorem q_4_32 : Cond.code yX6_takeOver (prog_8_method_2_code) 2 (Option.none : Option FieldType) ∈ lw_ws := qx_4 (List.mem_of_getElem? (i := 32) rfl) rfl
theorem q_4_33 : Cond.methodLink "SoundDesk$State" 57 yX5_copyFrom ∈ lw_ws := qx_4 (List.mem_of_getElem? (i := 33) rfl) rfl
theorem q_4_34 : Cond.instanceMethod yX5_copyFrom ∈ lw_ws := qx_4 (List.mem_of_getElem? (i := 34) rfl) rfl
theorem q_4_35 : Cond.selects "SoundDesk$Sounds" yX5_copyFrom yX5_copyFrom ∈ lw_ws := qx_4 (List.mem_of_getElem? (i := 35) rfl) rfl
theorem q_4_36 : Cond.code yX5_copyFrom (prog_7_method_5_code) 2 (Option.none : Option FieldType) ∈ lw_ws := qx_4 (List.mem_of_getElem? (i := 36) rfl) rfl
theorem q_4_37 : Cond.methodLink "SoundDesk$Sounds" 30 arraycopyName ∈ lw_ws := qx_4 (List.mem_of_getElem? (i := 37) rfl) rfl
theorem q_4_38 : Cond.methodLink "SoundDesk$State" 61 yX1_copyFrom ∈ lw_ws := qx_4 (List.mem_of_getElem? (i := 38) rfl) rfl
theorem q_4_39 : Cond.instanceMethod yX1_copyFrom ∈ lw_ws := qx_4 (List.mem_of_getElem? (i := 39) rfl) rfl
theorem q_4_40 : Cond.selects "SoundDesk$Laws" yX1_copyFrom yX1_copyFrom ∈ lw_ws := qx_4 (List.mem_of_getElem? (i := 40) rfl) rfl
theorem q_4_41 : Cond.code yX1_copyFrom (prog_3_method_6_code) 2 (Option.none : Option FieldType) ∈ lw_ws := qx_4 (List.mem_of_getElem? (i := 41) rfl) rfl
theorem q_4_42 : Cond.methodLink "SoundDesk$Laws" 49 arraycopyName ∈ lw_ws := qx_4 (List.mem_of_getElem? (i := 42) rfl) rfl
theorem q_4_43 : Cond.methodLink "SoundDesk$State" 64 yX7_copyFrom ∈ lw_ws := qx_4 (List.mem_of_getElem? (i := 43) rfl) rfl
theorem q_4_44 : Cond.instanceMethod yX7_copyFrom ∈ lw_ws := qx_4 (List.mem_of_getElem? (i := 44) rfl) rfl
theorem q_4_45 : Cond.selects "SoundDesk$Tongues" yX7_copyFrom yX7_copyFrom ∈ lw_ws := qx_4 (List.mem_of_getElem? (i := 45) rfl) rfl
theorem q_4_46 : Cond.code yX7_copyFrom (prog_9_method_2_code) 3 (Option.none : Option FieldType) ∈ lw_ws := qx_4 (List.mem_of_getElem? (i := 46) rfl) rfl
theorem q_4_47 : Cond.methodLink "SoundDesk$Tongues" 25 arraycopyName ∈ lw_ws := qx_4 (List.mem_of_getElem? (i := 47) rfl) rfl
theorem q_4_48 : Cond.methodLink "SoundDesk$State" 67 yX2_copyFrom ∈ lw_ws := qx_4 (List.mem_of_getElem? (i := 48) rfl) rfl
theorem q_4_49 : Cond.instanceMethod yX2_copyFrom ∈ lw_ws := qx_4 (List.mem_of_getElem? (i := 49) rfl) rfl
theorem q_4_50 : Cond.selects "SoundDesk$Meanings" yX2_copyFrom yX2_copyFrom ∈ lw_ws := qx_4 (List.mem_of_getElem? (i := 50) rfl) rfl
theorem q_4_51 : Cond.code yX2_copyFrom (prog_4_method_2_code) 3 (Option.none : Option FieldType) ∈ lw_ws := qx_4 (List.mem_of_getElem? (i := 51) rfl) rfl
theorem q_4_52 : Cond.methodLink "SoundDesk$Meanings" 22 arraycopyName ∈ lw_ws := qx_4 (List.mem_of_getElem? (i := 52) rfl) rfl
theorem q_4_53 : Cond.methodLink "SoundDesk$State" 70 yX3_copyFrom ∈ lw_ws := qx_4 (List.mem_of_getElem? (i := 53) rfl) rfl
theorem q_4_54 : Cond.methodLink "SoundDeskLaw" 150 yX10_again ∈ lw_ws := qx_4 (List.mem_of_getElem? (i := 54) rfl) rfl
theorem q_4_55 : Cond.instanceMethod yX10_again ∈ lw_ws := qx_4 (List.mem_of_getElem? (i := 55) rfl) rfl
theorem q_4_56 : Cond.selects "SoundDesk" yX10_again yX10_again ∈ lw_ws := qx_4 (List.mem_of_getElem? (i := 56) rfl) rfl
theorem q_4_57 : Cond.code yX10_again (prog_1_method_35_code) 1 (Option.some FieldType.int) ∈ lw_ws := qx_4 (List.mem_of_getElem? (i := 57) rfl) rfl
theorem q_4_58 : Cond.methodLink "SoundDeskLaw" 154 yX10_told ∈ lw_ws := qx_4 (List.mem_of_getElem? (i := 58) rfl) rfl
theorem q_4_59 : Cond.instanceMethod yX10_told ∈ lw_ws := qx_4 (List.mem_of_getElem? (i := 59) rfl) rfl
theorem q_4_60 : Cond.selects "SoundDesk" yX10_told yX10_told ∈ lw_ws := qx_4 (List.mem_of_getElem? (i := 60) rfl) rfl
theorem q_4_61 : Cond.code yX10_told (prog_1_method_36_code) 2 (Option.some FieldType.int) ∈ lw_ws := qx_4 (List.mem_of_getElem? (i := 61) rfl) rfl
theorem q_4_62 : Cond.classLink "SoundDeskLaw" 10 "SoundDeskModel" ∈ lw_ws := qx_4 (List.mem_of_getElem? (i := 62) rfl) rfl
theorem q_4_63 : Cond.instantiable "SoundDeskModel" 23 ∈ lw_ws := qx_4 (List.mem_of_getElem? (i := 63) rfl) rfl
theorem q_4_64 : Cond.methodLink "SoundDeskLaw" 12 yX11_init ∈ lw_ws := qx_4 (List.mem_of_getElem? (i := 64) rfl) rfl
theorem q_4_65 : Cond.instanceMethod yX11_init ∈ lw_ws := qx_4 (List.mem_of_getElem? (i := 65) rfl) rfl
theorem q_4_66 : Cond.code yX11_init (prog_13_method_1_code) 1 (Option.none : Option FieldType) ∈ lw_ws := qx_4 (List.mem_of_getElem? (i := 66) rfl) rfl
theorem q_4_67 : Cond.methodLink "SoundDeskModel" 1 objectInit ∈ lw_ws := qx_4 (List.mem_of_getElem? (i := 67) rfl) rfl
theorem q_4_68 : Cond.fieldLink "SoundDeskModel" 7 "SoundDeskModel" "now" "[I" ∈ lw_ws := qx_4 (List.mem_of_getElem? (i := 68) rfl) rfl
theorem q_4_69 : Cond.fieldLink "SoundDeskModel" 13 "SoundDeskModel" "kept" "[I" ∈ lw_ws := qx_4 (List.mem_of_getElem? (i := 69) rfl) rfl
theorem q_4_70 : Cond.fieldLink "SoundDeskModel" 222 "SoundDeskModel" "isKept" "Z" ∈ lw_ws := qx_4 (List.mem_of_getElem? (i := 70) rfl) rfl
theorem q_4_71 : Cond.fieldLink "SoundDeskModel" 16 "SoundDeskModel" "waiting" "[I" ∈ lw_ws := qx_4 (List.mem_of_getElem? (i := 71) rfl) rfl
theorem q_4_72 : Cond.fieldLink "SoundDeskModel" 216 "SoundDeskModel" "waits" "I" ∈ lw_ws := qx_4 (List.mem_of_getElem? (i := 72) rfl) rfl
theorem q_4_73 : Cond.fieldLink "SoundDeskModel" 57 "SoundDeskModel" "findings" "I" ∈ lw_ws := qx_4 (List.mem_of_getElem? (i := 73) rfl) rfl
theorem q_4_74 : Cond.fieldLink "SoundDeskModel" 19 "SoundDeskModel" "row" "[I" ∈ lw_ws := qx_4 (List.mem_of_getElem? (i := 74) rfl) rfl
theorem q_4_75 : Cond.fieldLink "SoundDeskModel" 86 "SoundDeskModel" "many" "I" ∈ lw_ws := qx_4 (List.mem_of_getElem? (i := 75) rfl) rfl
theorem q_4_76 : Cond.fieldLink "SoundDeskModel" 22 "SoundDeskModel" "line" "[I" ∈ lw_ws := qx_4 (List.mem_of_getElem? (i := 76) rfl) rfl
theorem q_4_77 : Cond.fieldLink "SoundDeskModel" 25 "SoundDeskModel" "word" "[I" ∈ lw_ws := qx_4 (List.mem_of_getElem? (i := 77) rfl) rfl
theorem q_4_78 : Cond.fieldLink "SoundDeskModel" 99 "SoundDeskModel" "size" "I" ∈ lw_ws := qx_4 (List.mem_of_getElem? (i := 78) rfl) rfl
theorem q_4_79 : Cond.fieldLink "SoundDeskModel" 28 "SoundDeskModel" "made" "[I" ∈ lw_ws := qx_4 (List.mem_of_getElem? (i := 79) rfl) rfl
theorem q_4_80 : Cond.fieldLink "SoundDeskModel" 96 "SoundDeskModel" "makes" "I" ∈ lw_ws := qx_4 (List.mem_of_getElem? (i := 80) rfl) rfl
theorem q_4_81 : Cond.fieldLink "SoundDeskModel" 106 "SoundDeskModel" "changes" "I" ∈ lw_ws := qx_4 (List.mem_of_getElem? (i := 81) rfl) rfl
theorem q_4_82 : Cond.fieldLink "SoundDeskModel" 31 "SoundDeskModel" "some" "[I" ∈ lw_ws := qx_4 (List.mem_of_getElem? (i := 82) rfl) rfl
theorem q_4_83 : Cond.fieldLink "SoundDeskModel" 133 "SoundDeskModel" "someSize" "I" ∈ lw_ws := qx_4 (List.mem_of_getElem? (i := 83) rfl) rfl
theorem q_4_84 : Cond.fieldLink "SoundDeskModel" 34 "SoundDeskModel" "seen" "[J" ∈ lw_ws := qx_4 (List.mem_of_getElem? (i := 84) rfl) rfl
theorem q_4_85 : Cond.fieldLink "SoundDeskModel" 38 "SoundDeskModel" "ledTo" "[J" ∈ lw_ws := qx_4 (List.mem_of_getElem? (i := 85) rfl) rfl
theorem q_4_86 : Cond.fieldLink "SoundDeskModel" 41 "SoundDeskModel" "isExplained" "[Z" ∈ lw_ws := qx_4 (List.mem_of_getElem? (i := 86) rfl) rfl
theorem q_4_87 : Cond.fieldLink "SoundDeskModel" 45 "SoundDeskModel" "own" "[I" ∈ lw_ws := qx_4 (List.mem_of_getElem? (i := 87) rfl) rfl
theorem q_4_88 : Cond.fieldLink "SoundDeskModel" 48 "SoundDeskModel" "places" "[I" ∈ lw_ws := qx_4 (List.mem_of_getElem? (i := 88) rfl) rfl
theorem q_4_89 : Cond.fieldLink "SoundDeskModel" 51 "SoundDeskModel" "bestPlaces" "[I" ∈ lw_ws := qx_4 (List.mem_of_getElem? (i := 89) rfl) rfl
theorem q_4_90 : Cond.fieldLink "SoundDeskModel" 54 "SoundDeskModel" "sums" "[I" ∈ lw_ws := qx_4 (List.mem_of_getElem? (i := 90) rfl) rfl
theorem q_4_138 : Cond.arrayClass (FieldType.boolean) ∈ lw_ws := qx_4 (List.mem_of_getElem? (i := 138) rfl) rfl
theorem q_4_139 : Cond.methodLink "SoundDeskLaw" 17 yX11_sound ∈ lw_ws := qx_4 (List.mem_of_getElem? (i := 139) rfl) rfl
theorem q_4_140 : Cond.instanceMethod yX11_sound ∈ lw_ws := qx_4 (List.mem_of_getElem? (i := 140) rfl) rfl
theorem q_4_141 : Cond.selects "SoundDeskModel" yX11_sound yX11_sound ∈ lw_ws := qx_4 (List.mem_of_getElem? (i := 141) rfl) rfl
theorem q_4_142 : Cond.code yX11_sound (prog_13_method_8_code) 6 (Option.some FieldType.int) ∈ lw_ws := qx_4 (List.mem_of_getElem? (i := 142) rfl) rfl
theorem q_4_143 : Cond.methodLink "SoundDeskModel" 61 yX11_in ∈ lw_ws := qx_4 (List.mem_of_getElem? (i := 143) rfl) rfl
theorem q_4_144 : Cond.static yX11_in ∈ lw_ws := qx_4 (List.mem_of_getElem? (i := 144) rfl) rfl
theorem q_4_145 : Cond.code yX11_in (prog_13_method_3_code) 3 (Option.some FieldType.boolean) ∈ lw_ws := qx_4 (List.mem_of_getElem? (i := 145) rfl) rfl
theorem q_4_146 : Cond.methodLink "SoundDeskModel" 65 yX11_finding ∈ lw_ws := qx_4 (List.mem_of_getElem? (i := 146) rfl) rfl
theorem q_4_148 : Cond.instanceMethod yX11_finding ∈ lw_ws := qx_4 (List.mem_of_getElem? (i := 148) rfl) rfl
theorem q_4_149 : Cond.code yX11_finding (prog_13_method_2_code) 2 (Option.some FieldType.int) ∈ lw_ws := qx_4 (List.mem_of_getElem? (i := 149) rfl) rfl
theorem q_4_150 : Cond.methodLink "SoundDeskLaw" 22 yX11_mark ∈ lw_ws := qx_4 (List.mem_of_getElem? (i := 150) rfl) rfl
theorem q_4_151 : Cond.instanceMethod yX11_mark ∈ lw_ws := qx_4 (List.mem_of_getElem? (i := 151) rfl) rfl
theorem q_4_152 : Cond.selects "SoundDeskModel" yX11_mark yX11_mark ∈ lw_ws := qx_4 (List.mem_of_getElem? (i := 152) rfl) rfl
theorem q_4_153 : Cond.code yX11_mark (prog_13_method_9_code) 3 (Option.some FieldType.int) ∈ lw_ws := qx_4 (List.mem_of_getElem? (i := 153) rfl) rfl
theorem q_4_154 : Cond.methodLink "SoundDeskModel" 69 yX11_isSound ∈ lw_ws := qx_4 (List.mem_of_getElem? (i := 154) rfl) rfl
theorem q_4_156 : Cond.instanceMethod yX11_isSound ∈ lw_ws := qx_4 (List.mem_of_getElem? (i := 156) rfl) rfl
theorem q_4_157 : Cond.code yX11_isSound (prog_13_method_4_code) 2 (Option.some FieldType.boolean) ∈ lw_ws := qx_4 (List.mem_of_getElem? (i := 157) rfl) rfl
theorem q_4_158 : Cond.methodLink "SoundDeskLaw" 26 yX11_as ∈ lw_ws := qx_4 (List.mem_of_getElem? (i := 158) rfl) rfl
theorem q_4_159 : Cond.instanceMethod yX11_as ∈ lw_ws := qx_4 (List.mem_of_getElem? (i := 159) rfl) rfl
theorem q_4_160 : Cond.selects "SoundDeskModel" yX11_as yX11_as ∈ lw_ws := qx_4 (List.mem_of_getElem? (i := 160) rfl) rfl
theorem q_4_161 : Cond.code yX11_as (prog_13_method_11_code) 3 (Option.some FieldType.int) ∈ lw_ws := qx_4 (List.mem_of_getElem? (i := 161) rfl) rfl
theorem q_4_162 : Cond.methodLink "SoundDeskModel" 73 yX11_isOf ∈ lw_ws := qx_4 (List.mem_of_getElem? (i := 162) rfl) rfl
theorem q_4_164 : Cond.instanceMethod yX11_isOf ∈ lw_ws := qx_4 (List.mem_of_getElem? (i := 164) rfl) rfl
theorem q_4_165 : Cond.code yX11_isOf (prog_13_method_10_code) 4 (Option.some FieldType.boolean) ∈ lw_ws := qx_4 (List.mem_of_getElem? (i := 165) rfl) rfl
theorem q_4_166 : Cond.methodLink "SoundDeskLaw" 31 yX11_law ∈ lw_ws := qx_4 (List.mem_of_getElem? (i := 166) rfl) rfl
theorem q_4_167 : Cond.instanceMethod yX11_law ∈ lw_ws := qx_4 (List.mem_of_getElem? (i := 167) rfl) rfl
theorem q_4_168 : Cond.selects "SoundDeskModel" yX11_law yX11_law ∈ lw_ws := qx_4 (List.mem_of_getElem? (i := 168) rfl) rfl
theorem q_4_169 : Cond.code yX11_law (prog_13_method_12_code) 4 (Option.some FieldType.int) ∈ lw_ws := qx_4 (List.mem_of_getElem? (i := 169) rfl) rfl
theorem q_4_170 : Cond.methodLink "SoundDeskLaw" 36 yX11_set ∈ lw_ws := qx_4 (List.mem_of_getElem? (i := 170) rfl) rfl
theorem q_4_171 : Cond.instanceMethod yX11_set ∈ lw_ws := qx_4 (List.mem_of_getElem? (i := 171) rfl) rfl
theorem q_4_172 : Cond.selects "SoundDeskModel" yX11_set yX11_set ∈ lw_ws := qx_4 (List.mem_of_getElem? (i := 172) rfl) rfl
theorem q_4_173 : Cond.code yX11_set (prog_13_method_13_code) 7 (Option.some FieldType.int) ∈ lw_ws := qx_4 (List.mem_of_getElem? (i := 173) rfl) rfl
theorem q_4_174 : Cond.methodLink "SoundDeskModel" 77 yX11_isLaw ∈ lw_ws := qx_4 (List.mem_of_getElem? (i := 174) rfl) rfl
theorem q_4_176 : Cond.instanceMethod yX11_isLaw ∈ lw_ws := qx_4 (List.mem_of_getElem? (i := 176) rfl) rfl
theorem q_4_177 : Cond.code yX11_isLaw (prog_13_method_5_code) 2 (Option.some FieldType.boolean) ∈ lw_ws := qx_4 (List.mem_of_getElem? (i := 177) rfl) rfl
theorem q_4_178 : Cond.methodLink "SoundDeskLaw" 40 yX11_becomes ∈ lw_ws := qx_4 (List.mem_of_getElem? (i := 178) rfl) rfl
theorem q_4_179 : Cond.instanceMethod yX11_becomes ∈ lw_ws := qx_4 (List.mem_of_getElem? (i := 179) rfl) rfl
theorem q_4_180 : Cond.selects "SoundDeskModel" yX11_becomes yX11_becomes ∈ lw_ws := qx_4 (List.mem_of_getElem? (i := 180) rfl) rfl
theorem q_4_181 : Cond.code yX11_becomes (prog_13_method_14_code) 4 (Option.some FieldType.int) ∈ lw_ws := qx_4 (List.mem_of_getElem? (i := 181) rfl) rfl
theorem q_4_182 : Cond.methodLink "SoundDeskLaw" 44 yX11_tongue ∈ lw_ws := qx_4 (List.mem_of_getElem? (i := 182) rfl) rfl
theorem q_4_183 : Cond.instanceMethod yX11_tongue ∈ lw_ws := qx_4 (List.mem_of_getElem? (i := 183) rfl) rfl
theorem q_4_184 : Cond.selects "SoundDeskModel" yX11_tongue yX11_tongue ∈ lw_ws := qx_4 (List.mem_of_getElem? (i := 184) rfl) rfl
theorem q_4_185 : Cond.code yX11_tongue (prog_13_method_15_code) 4 (Option.some FieldType.int) ∈ lw_ws := qx_4 (List.mem_of_getElem? (i := 185) rfl) rfl
theorem q_4_186 : Cond.methodLink "SoundDeskModel" 80 yX11_isTongue ∈ lw_ws := qx_4 (List.mem_of_getElem? (i := 186) rfl) rfl
theorem q_4_188 : Cond.instanceMethod yX11_isTongue ∈ lw_ws := qx_4 (List.mem_of_getElem? (i := 188) rfl) rfl
theorem q_4_189 : Cond.code yX11_isTongue (prog_13_method_6_code) 2 (Option.some FieldType.boolean) ∈ lw_ws := qx_4 (List.mem_of_getElem? (i := 189) rfl) rfl
theorem q_4_190 : Cond.methodLink "SoundDeskLaw" 48 yX11_give ∈ lw_ws := qx_4 (List.mem_of_getElem? (i := 190) rfl) rfl
theorem q_4_191 : Cond.instanceMethod yX11_give ∈ lw_ws := qx_4 (List.mem_of_getElem? (i := 191) rfl) rfl
theorem q_4_192 : Cond.selects "SoundDeskModel" yX11_give yX11_give ∈ lw_ws := qx_4 (List.mem_of_getElem? (i := 192) rfl) rfl
theorem q_4_193 : Cond.code yX11_give (prog_13_method_16_code) 4 (Option.some FieldType.int) ∈ lw_ws := qx_4 (List.mem_of_getElem? (i := 193) rfl) rfl
theorem q_4_194 : Cond.methodLink "SoundDeskLaw" 52 yX11_swap ∈ lw_ws := qx_4 (List.mem_of_getElem? (i := 194) rfl) rfl
theorem q_4_195 : Cond.instanceMethod yX11_swap ∈ lw_ws := qx_4 (List.mem_of_getElem? (i := 195) rfl) rfl
theorem q_4_196 : Cond.selects "SoundDeskModel" yX11_swap yX11_swap ∈ lw_ws := qx_4 (List.mem_of_getElem? (i := 196) rfl) rfl
theorem q_4_197 : Cond.code yX11_swap (prog_13_method_18_code) 5 (Option.some FieldType.int) ∈ lw_ws := qx_4 (List.mem_of_getElem? (i := 197) rfl) rfl
theorem q_4_198 : Cond.methodLink "SoundDeskModel" 83 yX11_hasTwo ∈ lw_ws := qx_4 (List.mem_of_getElem? (i := 198) rfl) rfl
theorem q_4_200 : Cond.instanceMethod yX11_hasTwo ∈ lw_ws := qx_4 (List.mem_of_getElem? (i := 200) rfl) rfl
theorem q_4_201 : Cond.code yX11_hasTwo (prog_13_method_17_code) 3 (Option.some FieldType.boolean) ∈ lw_ws := qx_4 (List.mem_of_getElem? (i := 201) rfl) rfl
theorem q_4_202 : Cond.methodLink "SoundDeskLaw" 56 yX11_laws ∈ lw_ws := qx_4 (List.mem_of_getElem? (i := 202) rfl) rfl
theorem q_4_203 : Cond.instanceMethod yX11_laws ∈ lw_ws := qx_4 (List.mem_of_getElem? (i := 203) rfl) rfl
theorem q_4_204 : Cond.selects "SoundDeskModel" yX11_laws yX11_laws ∈ lw_ws := qx_4 (List.mem_of_getElem? (i := 204) rfl) rfl
theorem q_4_205 : Cond.code yX11_laws (prog_13_method_20_code) 2 (Option.some FieldType.int) ∈ lw_ws := qx_4 (List.mem_of_getElem? (i := 205) rfl) rfl
theorem q_4_206 : Cond.methodLink "SoundDeskModel" 89 yX11_findLaws ∈ lw_ws := qx_4 (List.mem_of_getElem? (i := 206) rfl) rfl
theorem q_4_208 : Cond.instanceMethod yX11_findLaws ∈ lw_ws := qx_4 (List.mem_of_getElem? (i := 208) rfl) rfl
theorem q_4_209 : Cond.code yX11_findLaws (prog_13_method_19_code) 6 (Option.none : Option FieldType) ∈ lw_ws := qx_4 (List.mem_of_getElem? (i := 209) rfl) rfl
theorem q_4_210 : Cond.methodLink "SoundDeskLaw" 60 yX11_lawAt ∈ lw_ws := qx_4 (List.mem_of_getElem? (i := 210) rfl) rfl
theorem q_4_211 : Cond.instanceMethod yX11_lawAt ∈ lw_ws := qx_4 (List.mem_of_getElem? (i := 211) rfl) rfl
theorem q_4_212 : Cond.selects "SoundDeskModel" yX11_lawAt yX11_lawAt ∈ lw_ws := qx_4 (List.mem_of_getElem? (i := 212) rfl) rfl
theorem q_4_213 : Cond.code yX11_lawAt (prog_13_method_21_code) 3 (Option.some FieldType.int) ∈ lw_ws := qx_4 (List.mem_of_getElem? (i := 213) rfl) rfl
theorem q_4_214 : Cond.methodLink "SoundDeskLaw" 64 yX11_say ∈ lw_ws := qx_4 (List.mem_of_getElem? (i := 214) rfl) rfl
theorem q_4_215 : Cond.instanceMethod yX11_say ∈ lw_ws := qx_4 (List.mem_of_getElem? (i := 215) rfl) rfl
theorem q_4_216 : Cond.selects "SoundDeskModel" yX11_say yX11_say ∈ lw_ws := qx_4 (List.mem_of_getElem? (i := 216) rfl) rfl
theorem q_4_217 : Cond.code yX11_say (prog_13_method_22_code) 3 (Option.some FieldType.int) ∈ lw_ws := qx_4 (List.mem_of_getElem? (i := 217) rfl) rfl
theorem q_4_218 : Cond.methodLink "SoundDeskLaw" 69 yX11_hush ∈ lw_ws := qx_4 (List.mem_of_getElem? (i := 218) rfl) rfl
theorem q_4_219 : Cond.instanceMethod yX11_hush ∈ lw_ws := qx_4 (List.mem_of_getElem? (i := 219) rfl) rfl
theorem q_4_220 : Cond.selects "SoundDeskModel" yX11_hush yX11_hush ∈ lw_ws := qx_4 (List.mem_of_getElem? (i := 220) rfl) rfl
theorem q_4_221 : Cond.code yX11_hush (prog_13_method_23_code) 2 (Option.some FieldType.int) ∈ lw_ws := qx_4 (List.mem_of_getElem? (i := 221) rfl) rfl
theorem q_4_222 : Cond.methodLink "SoundDeskLaw" 73 yX11_result ∈ lw_ws := qx_4 (List.mem_of_getElem? (i := 222) rfl) rfl
theorem q_4_223 : Cond.instanceMethod yX11_result ∈ lw_ws := qx_4 (List.mem_of_getElem? (i := 223) rfl) rfl
theorem q_4_224 : Cond.selects "SoundDeskModel" yX11_result yX11_result ∈ lw_ws := qx_4 (List.mem_of_getElem? (i := 224) rfl) rfl
theorem q_4_225 : Cond.code yX11_result (prog_13_method_24_code) 2 (Option.some FieldType.int) ∈ lw_ws := qx_4 (List.mem_of_getElem? (i := 225) rfl) rfl
theorem q_4_226 : Cond.methodLink "SoundDeskLaw" 77 yX11_led ∈ lw_ws := qx_4 (List.mem_of_getElem? (i := 226) rfl) rfl
theorem q_4_227 : Cond.instanceMethod yX11_led ∈ lw_ws := qx_4 (List.mem_of_getElem? (i := 227) rfl) rfl
theorem q_4_228 : Cond.selects "SoundDeskModel" yX11_led yX11_led ∈ lw_ws := qx_4 (List.mem_of_getElem? (i := 228) rfl) rfl
theorem q_4_229 : Cond.code yX11_led (prog_13_method_34_code) 5 (Option.some FieldType.int) ∈ lw_ws := qx_4 (List.mem_of_getElem? (i := 229) rfl) rfl
theorem q_4_230 : Cond.methodLink "SoundDeskModel" 122 yX11_takeWord ∈ lw_ws := qx_4 (List.mem_of_getElem? (i := 230) rfl) rfl
theorem q_4_232 : Cond.instanceMethod yX11_takeWord ∈ lw_ws := qx_4 (List.mem_of_getElem? (i := 232) rfl) rfl
theorem q_4_233 : Cond.code yX11_takeWord (prog_13_method_32_code) 2 (Option.none : Option FieldType) ∈ lw_ws := qx_4 (List.mem_of_getElem? (i := 233) rfl) rfl
theorem q_4_234 : Cond.methodLink "SoundDeskModel" 125 yX11_goAll ∈ lw_ws := qx_4 (List.mem_of_getElem? (i := 234) rfl) rfl
theorem q_4_236 : Cond.instanceMethod yX11_goAll ∈ lw_ws := qx_4 (List.mem_of_getElem? (i := 236) rfl) rfl
theorem q_4_237 : Cond.code yX11_goAll (prog_13_method_31_code) 3 (Option.some FieldType.boolean) ∈ lw_ws := qx_4 (List.mem_of_getElem? (i := 237) rfl) rfl
theorem q_4_238 : Cond.methodLink "SoundDeskModel" 119 yX11_go ∈ lw_ws := qx_4 (List.mem_of_getElem? (i := 238) rfl) rfl
theorem q_5_0 : Cond.instanceMethod yX11_go ∈ lw_ws := qx_5 (List.mem_of_getElem? (i := 0) rfl) rfl
theorem q_5_1 : Cond.code yX11_go (prog_13_method_30_code) 4 (Option.some FieldType.boolean) ∈ lw_ws := qx_5 (List.mem_of_getElem? (i := 1) rfl) rfl
theorem q_5_2 : Cond.methodLink "SoundDeskModel" 112 yX11_goLeft ∈ lw_ws := qx_5 (List.mem_of_getElem? (i := 2) rfl) rfl
theorem q_5_4 : Cond.instanceMethod yX11_goLeft ∈ lw_ws := qx_5 (List.mem_of_getElem? (i := 4) rfl) rfl
theorem q_5_5 : Cond.code yX11_goLeft (prog_13_method_29_code) 5 (Option.none : Option FieldType) ∈ lw_ws := qx_5 (List.mem_of_getElem? (i := 5) rfl) rfl
theorem q_5_6 : Cond.methodLink "SoundDeskModel" 102 yX11_fits ∈ lw_ws := qx_5 (List.mem_of_getElem? (i := 6) rfl) rfl
theorem q_5_8 : Cond.instanceMethod yX11_fits ∈ lw_ws := qx_5 (List.mem_of_getElem? (i := 8) rfl) rfl
theorem q_5_9 : Cond.code yX11_fits (prog_13_method_26_code) 5 (Option.some FieldType.boolean) ∈ lw_ws := qx_5 (List.mem_of_getElem? (i := 9) rfl) rfl
theorem q_5_10 : Cond.methodLink "SoundDeskModel" 93 yX11_fitsSet ∈ lw_ws := qx_5 (List.mem_of_getElem? (i := 10) rfl) rfl
theorem q_5_12 : Cond.instanceMethod yX11_fitsSet ∈ lw_ws := qx_5 (List.mem_of_getElem? (i := 12) rfl) rfl
theorem q_5_13 : Cond.code yX11_fitsSet (prog_13_method_25_code) 6 (Option.some FieldType.boolean) ∈ lw_ws := qx_5 (List.mem_of_getElem? (i := 13) rfl) rfl
theorem q_5_14 : Cond.methodLink "SoundDeskModel" 109 yX11_make ∈ lw_ws := qx_5 (List.mem_of_getElem? (i := 14) rfl) rfl
theorem q_5_16 : Cond.instanceMethod yX11_make ∈ lw_ws := qx_5 (List.mem_of_getElem? (i := 16) rfl) rfl
theorem q_5_17 : Cond.code yX11_make (prog_13_method_27_code) 2 (Option.none : Option FieldType) ∈ lw_ws := qx_5 (List.mem_of_getElem? (i := 17) rfl) rfl
theorem q_5_18 : Cond.methodLink "SoundDeskModel" 115 yX11_goRight ∈ lw_ws := qx_5 (List.mem_of_getElem? (i := 18) rfl) rfl
theorem q_5_20 : Cond.instanceMethod yX11_goRight ∈ lw_ws := qx_5 (List.mem_of_getElem? (i := 20) rfl) rfl
theorem q_5_21 : Cond.code yX11_goRight (prog_13_method_28_code) 7 (Option.none : Option FieldType) ∈ lw_ws := qx_5 (List.mem_of_getElem? (i := 21) rfl) rfl
theorem q_5_22 : Cond.methodLink "SoundDeskModel" 129 yX11_tell ∈ lw_ws := qx_5 (List.mem_of_getElem? (i := 22) rfl) rfl
theorem q_5_24 : Cond.instanceMethod yX11_tell ∈ lw_ws := qx_5 (List.mem_of_getElem? (i := 24) rfl) rfl
theorem q_5_25 : Cond.code yX11_tell (prog_13_method_33_code) 2 (Option.some FieldType.int) ∈ lw_ws := qx_5 (List.mem_of_getElem? (i := 25) rfl) rfl
theorem q_5_26 : Cond.methodLink "SoundDeskLaw" 81 yX11_step ∈ lw_ws := qx_5 (List.mem_of_getElem? (i := 26) rfl) rfl
theorem q_5_27 : Cond.instanceMethod yX11_step ∈ lw_ws := qx_5 (List.mem_of_getElem? (i := 27) rfl) rfl
theorem q_5_28 : Cond.selects "SoundDeskModel" yX11_step yX11_step ∈ lw_ws := qx_5 (List.mem_of_getElem? (i := 28) rfl) rfl
theorem q_5_29 : Cond.code yX11_step (prog_13_method_35_code) 3 (Option.some FieldType.int) ∈ lw_ws := qx_5 (List.mem_of_getElem? (i := 29) rfl) rfl
theorem q_5_30 : Cond.methodLink "SoundDeskLaw" 85 yX11_places ∈ lw_ws := qx_5 (List.mem_of_getElem? (i := 30) rfl) rfl
theorem q_5_31 : Cond.instanceMethod yX11_places ∈ lw_ws := qx_5 (List.mem_of_getElem? (i := 31) rfl) rfl
theorem q_5_32 : Cond.selects "SoundDeskModel" yX11_places yX11_places ∈ lw_ws := qx_5 (List.mem_of_getElem? (i := 32) rfl) rfl
theorem q_5_33 : Cond.code yX11_places (prog_13_method_36_code) 2 (Option.some FieldType.int) ∈ lw_ws := qx_5 (List.mem_of_getElem? (i := 33) rfl) rfl
theorem q_5_34 : Cond.methodLink "SoundDeskLaw" 89 yX11_back ∈ lw_ws := qx_5 (List.mem_of_getElem? (i := 34) rfl) rfl
theorem q_5_35 : Cond.instanceMethod yX11_back ∈ lw_ws := qx_5 (List.mem_of_getElem? (i := 35) rfl) rfl
theorem q_5_36 : Cond.selects "SoundDeskModel" yX11_back yX11_back ∈ lw_ws := qx_5 (List.mem_of_getElem? (i := 36) rfl) rfl
theorem q_5_37 : Cond.code yX11_back (prog_13_method_43_code) 7 (Option.some FieldType.int) ∈ lw_ws := qx_5 (List.mem_of_getElem? (i := 37) rfl) rfl
theorem q_5_38 : Cond.methodLink "SoundDeskModel" 142 yX11_codeOf ∈ lw_ws := qx_5 (List.mem_of_getElem? (i := 38) rfl) rfl
theorem q_5_40 : Cond.instanceMethod yX11_codeOf ∈ lw_ws := qx_5 (List.mem_of_getElem? (i := 40) rfl) rfl
theorem q_5_41 : Cond.code yX11_codeOf (prog_13_method_42_code) 6 (Option.some FieldType.long) ∈ lw_ws := qx_5 (List.mem_of_getElem? (i := 41) rfl) rfl
theorem q_5_42 : Cond.constantLong "SoundDeskModel" 138 (8) ∈ lw_ws := qx_5 (List.mem_of_getElem? (i := 42) rfl) rfl
theorem q_5_43 : Cond.constantLong "SoundDeskModel" 140 (32) ∈ lw_ws := qx_5 (List.mem_of_getElem? (i := 43) rfl) rfl
theorem q_5_44 : Cond.methodLink "SoundDeskModel" 146 yX11_beginSome ∈ lw_ws := qx_5 (List.mem_of_getElem? (i := 44) rfl) rfl
theorem q_5_46 : Cond.instanceMethod yX11_beginSome ∈ lw_ws := qx_5 (List.mem_of_getElem? (i := 46) rfl) rfl
theorem q_5_47 : Cond.code yX11_beginSome (prog_13_method_37_code) 1 (Option.none : Option FieldType) ∈ lw_ws := qx_5 (List.mem_of_getElem? (i := 47) rfl) rfl
theorem q_5_48 : Cond.methodLink "SoundDeskModel" 149 yX11_takeSome ∈ lw_ws := qx_5 (List.mem_of_getElem? (i := 48) rfl) rfl
theorem q_5_50 : Cond.instanceMethod yX11_takeSome ∈ lw_ws := qx_5 (List.mem_of_getElem? (i := 50) rfl) rfl
theorem q_5_51 : Cond.code yX11_takeSome (prog_13_method_39_code) 2 (Option.none : Option FieldType) ∈ lw_ws := qx_5 (List.mem_of_getElem? (i := 51) rfl) rfl
theorem q_5_52 : Cond.methodLink "SoundDeskModel" 152 yX11_code ∈ lw_ws := qx_5 (List.mem_of_getElem? (i := 52) rfl) rfl
theorem q_5_54 : Cond.instanceMethod yX11_code ∈ lw_ws := qx_5 (List.mem_of_getElem? (i := 54) rfl) rfl
theorem q_5_55 : Cond.code yX11_code (prog_13_method_41_code) 4 (Option.some FieldType.long) ∈ lw_ws := qx_5 (List.mem_of_getElem? (i := 55) rfl) rfl
theorem q_5_56 : Cond.constantLong "SoundDeskModel" 136 (-1) ∈ lw_ws := qx_5 (List.mem_of_getElem? (i := 56) rfl) rfl
theorem q_5_57 : Cond.methodLink "SoundDeskModel" 156 yX11_tellSome ∈ lw_ws := qx_5 (List.mem_of_getElem? (i := 57) rfl) rfl
theorem q_5_59 : Cond.instanceMethod yX11_tellSome ∈ lw_ws := qx_5 (List.mem_of_getElem? (i := 59) rfl) rfl
theorem q_5_60 : Cond.code yX11_tellSome (prog_13_method_40_code) 2 (Option.none : Option FieldType) ∈ lw_ws := qx_5 (List.mem_of_getElem? (i := 60) rfl) rfl
theorem q_5_61 : Cond.methodLink "SoundDeskModel" 159 yX11_nextSome ∈ lw_ws := qx_5 (List.mem_of_getElem? (i := 61) rfl) rfl
theorem q_5_63 : Cond.instanceMethod yX11_nextSome ∈ lw_ws := qx_5 (List.mem_of_getElem? (i := 63) rfl) rfl
theorem q_5_64 : Cond.code yX11_nextSome (prog_13_method_38_code) 5 (Option.some FieldType.boolean) ∈ lw_ws := qx_5 (List.mem_of_getElem? (i := 64) rfl) rfl
theorem q_5_65 : Cond.methodLink "SoundDeskLaw" 93 yX11_differ ∈ lw_ws := qx_5 (List.mem_of_getElem? (i := 65) rfl) rfl
theorem q_5_66 : Cond.instanceMethod yX11_differ ∈ lw_ws := qx_5 (List.mem_of_getElem? (i := 66) rfl) rfl
theorem q_5_67 : Cond.selects "SoundDeskModel" yX11_differ yX11_differ ∈ lw_ws := qx_5 (List.mem_of_getElem? (i := 67) rfl) rfl
theorem q_5_68 : Cond.code yX11_differ (prog_13_method_44_code) 7 (Option.some FieldType.int) ∈ lw_ws := qx_5 (List.mem_of_getElem? (i := 68) rfl) rfl
theorem q_5_69 : Cond.methodLink "SoundDeskLaw" 97 yX11_loses ∈ lw_ws := qx_5 (List.mem_of_getElem? (i := 69) rfl) rfl
theorem q_5_70 : Cond.instanceMethod yX11_loses ∈ lw_ws := qx_5 (List.mem_of_getElem? (i := 70) rfl) rfl
theorem q_5_71 : Cond.selects "SoundDeskModel" yX11_loses yX11_loses ∈ lw_ws := qx_5 (List.mem_of_getElem? (i := 71) rfl) rfl
theorem q_5_72 : Cond.code yX11_loses (prog_13_method_45_code) 10 (Option.some FieldType.int) ∈ lw_ws := qx_5 (List.mem_of_getElem? (i := 72) rfl) rfl
theorem q_5_73 : Cond.methodLink "SoundDeskLaw" 101 yX11_stand ∈ lw_ws := qx_5 (List.mem_of_getElem? (i := 73) rfl) rfl
theorem q_5_74 : Cond.instanceMethod yX11_stand ∈ lw_ws := qx_5 (List.mem_of_getElem? (i := 74) rfl) rfl
theorem q_5_75 : Cond.selects "SoundDeskModel" yX11_stand yX11_stand ∈ lw_ws := qx_5 (List.mem_of_getElem? (i := 75) rfl) rfl
theorem q_5_76 : Cond.code yX11_stand (prog_13_method_47_code) 14 (Option.some FieldType.int) ∈ lw_ws := qx_5 (List.mem_of_getElem? (i := 76) rfl) rfl
theorem q_5_77 : Cond.methodLink "SoundDeskModel" 162 yX11_takeTwo ∈ lw_ws := qx_5 (List.mem_of_getElem? (i := 77) rfl) rfl
theorem q_5_79 : Cond.instanceMethod yX11_takeTwo ∈ lw_ws := qx_5 (List.mem_of_getElem? (i := 79) rfl) rfl
theorem q_5_80 : Cond.code yX11_takeTwo (prog_13_method_46_code) 3 (Option.none : Option FieldType) ∈ lw_ws := qx_5 (List.mem_of_getElem? (i := 80) rfl) rfl
theorem q_5_81 : Cond.methodLink "SoundDeskLaw" 105 yX11_meaning ∈ lw_ws := qx_5 (List.mem_of_getElem? (i := 81) rfl) rfl
theorem q_5_82 : Cond.instanceMethod yX11_meaning ∈ lw_ws := qx_5 (List.mem_of_getElem? (i := 82) rfl) rfl
theorem q_5_83 : Cond.selects "SoundDeskModel" yX11_meaning yX11_meaning ∈ lw_ws := qx_5 (List.mem_of_getElem? (i := 83) rfl) rfl
theorem q_5_84 : Cond.code yX11_meaning (prog_13_method_48_code) 3 (Option.some FieldType.int) ∈ lw_ws := qx_5 (List.mem_of_getElem? (i := 84) rfl) rfl
theorem q_5_85 : Cond.methodLink "SoundDeskLaw" 109 yX11_form ∈ lw_ws := qx_5 (List.mem_of_getElem? (i := 85) rfl) rfl
theorem q_5_86 : Cond.instanceMethod yX11_form ∈ lw_ws := qx_5 (List.mem_of_getElem? (i := 86) rfl) rfl
theorem q_5_87 : Cond.selects "SoundDeskModel" yX11_form yX11_form ∈ lw_ws := qx_5 (List.mem_of_getElem? (i := 87) rfl) rfl
theorem q_5_88 : Cond.code yX11_form (prog_13_method_52_code) 4 (Option.some FieldType.int) ∈ lw_ws := qx_5 (List.mem_of_getElem? (i := 88) rfl) rfl
theorem q_5_89 : Cond.methodLink "SoundDeskModel" 169 yX11_isMeaning ∈ lw_ws := qx_5 (List.mem_of_getElem? (i := 89) rfl) rfl
theorem q_5_91 : Cond.instanceMethod yX11_isMeaning ∈ lw_ws := qx_5 (List.mem_of_getElem? (i := 91) rfl) rfl
theorem q_5_92 : Cond.code yX11_isMeaning (prog_13_method_7_code) 2 (Option.some FieldType.boolean) ∈ lw_ws := qx_5 (List.mem_of_getElem? (i := 92) rfl) rfl
theorem q_5_93 : Cond.methodLink "SoundDeskModel" 172 yX11_formAt ∈ lw_ws := qx_5 (List.mem_of_getElem? (i := 93) rfl) rfl
theorem q_5_95 : Cond.instanceMethod yX11_formAt ∈ lw_ws := qx_5 (List.mem_of_getElem? (i := 95) rfl) rfl
theorem q_5_96 : Cond.code yX11_formAt (prog_13_method_49_code) 3 (Option.some FieldType.int) ∈ lw_ws := qx_5 (List.mem_of_getElem? (i := 96) rfl) rfl
theorem q_5_97 : Cond.methodLink "SoundDeskModel" 175 yX11_formsOf ∈ lw_ws := qx_5 (List.mem_of_getElem? (i := 97) rfl) rfl
theorem q_5_99 : Cond.instanceMethod yX11_formsOf ∈ lw_ws := qx_5 (List.mem_of_getElem? (i := 99) rfl) rfl
theorem q_5_100 : Cond.code yX11_formsOf (prog_13_method_51_code) 4 (Option.some FieldType.int) ∈ lw_ws := qx_5 (List.mem_of_getElem? (i := 100) rfl) rfl
theorem q_5_101 : Cond.methodLink "SoundDeskModel" 165 yX11_formSize ∈ lw_ws := qx_5 (List.mem_of_getElem? (i := 101) rfl) rfl
theorem q_5_103 : Cond.instanceMethod yX11_formSize ∈ lw_ws := qx_5 (List.mem_of_getElem? (i := 103) rfl) rfl
theorem q_5_104 : Cond.code yX11_formSize (prog_13_method_50_code) 3 (Option.some FieldType.int) ∈ lw_ws := qx_5 (List.mem_of_getElem? (i := 104) rfl) rfl
theorem q_5_105 : Cond.methodLink "SoundDeskLaw" 113 yX11_roots ∈ lw_ws := qx_5 (List.mem_of_getElem? (i := 105) rfl) rfl
theorem q_5_106 : Cond.instanceMethod yX11_roots ∈ lw_ws := qx_5 (List.mem_of_getElem? (i := 106) rfl) rfl
theorem q_5_107 : Cond.selects "SoundDeskModel" yX11_roots yX11_roots ∈ lw_ws := qx_5 (List.mem_of_getElem? (i := 107) rfl) rfl
theorem q_5_108 : Cond.code yX11_roots (prog_13_method_56_code) 5 (Option.some FieldType.int) ∈ lw_ws := qx_5 (List.mem_of_getElem? (i := 108) rfl) rfl
theorem q_5_109 : Cond.methodLink "SoundDeskModel" 181 yX11_leadAll ∈ lw_ws := qx_5 (List.mem_of_getElem? (i := 109) rfl) rfl
theorem q_5_111 : Cond.instanceMethod yX11_leadAll ∈ lw_ws := qx_5 (List.mem_of_getElem? (i := 111) rfl) rfl
theorem q_5_112 : Cond.code yX11_leadAll (prog_13_method_53_code) 2 (Option.none : Option FieldType) ∈ lw_ws := qx_5 (List.mem_of_getElem? (i := 112) rfl) rfl
theorem q_5_113 : Cond.methodLink "SoundDeskModel" 184 yX11_isRoot ∈ lw_ws := qx_5 (List.mem_of_getElem? (i := 113) rfl) rfl
theorem q_5_115 : Cond.instanceMethod yX11_isRoot ∈ lw_ws := qx_5 (List.mem_of_getElem? (i := 115) rfl) rfl
theorem q_5_116 : Cond.code yX11_isRoot (prog_13_method_55_code) 3 (Option.some FieldType.boolean) ∈ lw_ws := qx_5 (List.mem_of_getElem? (i := 116) rfl) rfl
theorem q_5_117 : Cond.methodLink "SoundDeskModel" 178 yX11_hits ∈ lw_ws := qx_5 (List.mem_of_getElem? (i := 117) rfl) rfl
theorem q_5_119 : Cond.instanceMethod yX11_hits ∈ lw_ws := qx_5 (List.mem_of_getElem? (i := 119) rfl) rfl
theorem q_5_120 : Cond.code yX11_hits (prog_13_method_54_code) 5 (Option.some FieldType.int) ∈ lw_ws := qx_5 (List.mem_of_getElem? (i := 120) rfl) rfl
theorem q_5_121 : Cond.methodLink "SoundDeskLaw" 117 yX11_some ∈ lw_ws := qx_5 (List.mem_of_getElem? (i := 121) rfl) rfl
theorem q_5_122 : Cond.instanceMethod yX11_some ∈ lw_ws := qx_5 (List.mem_of_getElem? (i := 122) rfl) rfl
theorem q_5_123 : Cond.selects "SoundDeskModel" yX11_some yX11_some ∈ lw_ws := qx_5 (List.mem_of_getElem? (i := 123) rfl) rfl
theorem q_5_124 : Cond.code yX11_some (prog_13_method_57_code) 6 (Option.some FieldType.int) ∈ lw_ws := qx_5 (List.mem_of_getElem? (i := 124) rfl) rfl
theorem q_5_125 : Cond.methodLink "SoundDeskLaw" 121 yX11_explain ∈ lw_ws := qx_5 (List.mem_of_getElem? (i := 125) rfl) rfl
theorem q_5_126 : Cond.instanceMethod yX11_explain ∈ lw_ws := qx_5 (List.mem_of_getElem? (i := 126) rfl) rfl
theorem q_5_127 : Cond.selects "SoundDeskModel" yX11_explain yX11_explain ∈ lw_ws := qx_5 (List.mem_of_getElem? (i := 127) rfl) rfl
theorem q_5_128 : Cond.code yX11_explain (prog_13_method_59_code) 2 (Option.some FieldType.int) ∈ lw_ws := qx_5 (List.mem_of_getElem? (i := 128) rfl) rfl
theorem q_5_129 : Cond.methodLink "SoundDeskModel" 187 yX11_explained ∈ lw_ws := qx_5 (List.mem_of_getElem? (i := 129) rfl) rfl
theorem q_5_131 : Cond.instanceMethod yX11_explained ∈ lw_ws := qx_5 (List.mem_of_getElem? (i := 131) rfl) rfl
theorem q_5_132 : Cond.code yX11_explained (prog_13_method_58_code) 5 (Option.some FieldType.int) ∈ lw_ws := qx_5 (List.mem_of_getElem? (i := 132) rfl) rfl
theorem q_5_133 : Cond.methodLink "SoundDeskLaw" 125 yX11_order ∈ lw_ws := qx_5 (List.mem_of_getElem? (i := 133) rfl) rfl
theorem q_5_134 : Cond.instanceMethod yX11_order ∈ lw_ws := qx_5 (List.mem_of_getElem? (i := 134) rfl) rfl
theorem q_5_135 : Cond.selects "SoundDeskModel" yX11_order yX11_order ∈ lw_ws := qx_5 (List.mem_of_getElem? (i := 135) rfl) rfl
theorem q_5_136 : Cond.code yX11_order (prog_13_method_64_code) 8 (Option.some FieldType.int) ∈ lw_ws := qx_5 (List.mem_of_getElem? (i := 136) rfl) rfl
theorem q_5_137 : Cond.methodLink "SoundDeskModel" 193 yX11_takeOwn ∈ lw_ws := qx_5 (List.mem_of_getElem? (i := 137) rfl) rfl
theorem q_5_139 : Cond.instanceMethod yX11_takeOwn ∈ lw_ws := qx_5 (List.mem_of_getElem? (i := 139) rfl) rfl
theorem q_5_140 : Cond.code yX11_takeOwn (prog_13_method_60_code) 3 (Option.none : Option FieldType) ∈ lw_ws := qx_5 (List.mem_of_getElem? (i := 140) rfl) rfl
theorem q_5_141 : Cond.methodLink "SoundDeskModel" 196 yX11_putOwn ∈ lw_ws := qx_5 (List.mem_of_getElem? (i := 141) rfl) rfl
theorem q_5_143 : Cond.instanceMethod yX11_putOwn ∈ lw_ws := qx_5 (List.mem_of_getElem? (i := 143) rfl) rfl
theorem q_5_144 : Cond.code yX11_putOwn (prog_13_method_61_code) 5 (Option.none : Option FieldType) ∈ lw_ws := qx_5 (List.mem_of_getElem? (i := 144) rfl) rfl
theorem q_5_145 : Cond.methodLink "SoundDeskModel" 200 yX11_nextOrder ∈ lw_ws := qx_5 (List.mem_of_getElem? (i := 145) rfl) rfl
theorem q_5_147 : Cond.instanceMethod yX11_nextOrder ∈ lw_ws := qx_5 (List.mem_of_getElem? (i := 147) rfl) rfl
theorem q_5_148 : Cond.code yX11_nextOrder (prog_13_method_62_code) 6 (Option.some FieldType.boolean) ∈ lw_ws := qx_5 (List.mem_of_getElem? (i := 148) rfl) rfl
theorem q_5_149 : Cond.methodLink "SoundDeskModel" 190 yX11_swapPlaces ∈ lw_ws := qx_5 (List.mem_of_getElem? (i := 149) rfl) rfl
theorem q_5_151 : Cond.instanceMethod yX11_swapPlaces ∈ lw_ws := qx_5 (List.mem_of_getElem? (i := 151) rfl) rfl
theorem q_5_152 : Cond.code yX11_swapPlaces (prog_13_method_63_code) 4 (Option.none : Option FieldType) ∈ lw_ws := qx_5 (List.mem_of_getElem? (i := 152) rfl) rfl
theorem q_5_153 : Cond.methodLink "SoundDeskLaw" 129 yX11_few ∈ lw_ws := qx_5 (List.mem_of_getElem? (i := 153) rfl) rfl
theorem q_5_154 : Cond.instanceMethod yX11_few ∈ lw_ws := qx_5 (List.mem_of_getElem? (i := 154) rfl) rfl
theorem q_5_155 : Cond.selects "SoundDeskModel" yX11_few yX11_few ∈ lw_ws := qx_5 (List.mem_of_getElem? (i := 155) rfl) rfl
theorem q_5_156 : Cond.code yX11_few (prog_13_method_65_code) 9 (Option.some FieldType.int) ∈ lw_ws := qx_5 (List.mem_of_getElem? (i := 156) rfl) rfl
theorem q_5_157 : Cond.methodLink "SoundDeskModel" 203 yX11_bits ∈ lw_ws := qx_5 (List.mem_of_getElem? (i := 157) rfl) rfl
theorem q_5_158 : Cond.static yX11_bits ∈ lw_ws := qx_5 (List.mem_of_getElem? (i := 158) rfl) rfl
theorem q_5_159 : Cond.code yX11_bits (prog_13_method_67_code) 3 (Option.some FieldType.int) ∈ lw_ws := qx_5 (List.mem_of_getElem? (i := 159) rfl) rfl
theorem q_5_160 : Cond.methodLink "SoundDeskModel" 206 yX11_takeBack ∈ lw_ws := qx_5 (List.mem_of_getElem? (i := 160) rfl) rfl
theorem q_5_162 : Cond.instanceMethod yX11_takeBack ∈ lw_ws := qx_5 (List.mem_of_getElem? (i := 162) rfl) rfl
theorem q_5_163 : Cond.code yX11_takeBack (prog_13_method_66_code) 4 (Option.none : Option FieldType) ∈ lw_ws := qx_5 (List.mem_of_getElem? (i := 163) rfl) rfl
theorem q_5_164 : Cond.methodLink "SoundDeskLaw" 133 yX11_cost ∈ lw_ws := qx_5 (List.mem_of_getElem? (i := 164) rfl) rfl
theorem q_5_165 : Cond.instanceMethod yX11_cost ∈ lw_ws := qx_5 (List.mem_of_getElem? (i := 165) rfl) rfl
theorem q_5_166 : Cond.selects "SoundDeskModel" yX11_cost yX11_cost ∈ lw_ws := qx_5 (List.mem_of_getElem? (i := 166) rfl) rfl
theorem q_5_167 : Cond.code yX11_cost (prog_13_method_68_code) 3 (Option.some FieldType.int) ∈ lw_ws := qx_5 (List.mem_of_getElem? (i := 167) rfl) rfl
theorem q_5_168 : Cond.methodLink "SoundDeskLaw" 137 yX11_match ∈ lw_ws := qx_5 (List.mem_of_getElem? (i := 168) rfl) rfl
theorem q_5_169 : Cond.instanceMethod yX11_match ∈ lw_ws := qx_5 (List.mem_of_getElem? (i := 169) rfl) rfl
theorem q_5_170 : Cond.selects "SoundDeskModel" yX11_match yX11_match ∈ lw_ws := qx_5 (List.mem_of_getElem? (i := 170) rfl) rfl
theorem q_5_171 : Cond.code yX11_match (prog_13_method_71_code) 10 (Option.some FieldType.int) ∈ lw_ws := qx_5 (List.mem_of_getElem? (i := 171) rfl) rfl
theorem q_5_172 : Cond.constant "SoundDeskModel" 209 (1000000) ∈ lw_ws := qx_5 (List.mem_of_getElem? (i := 172) rfl) rfl
theorem q_5_173 : Cond.methodLink "SoundDeskModel" 210 yX11_lesser ∈ lw_ws := qx_5 (List.mem_of_getElem? (i := 173) rfl) rfl
theorem q_5_174 : Cond.static yX11_lesser ∈ lw_ws := qx_5 (List.mem_of_getElem? (i := 174) rfl) rfl
theorem q_5_175 : Cond.code yX11_lesser (prog_13_method_70_code) 2 (Option.some FieldType.int) ∈ lw_ws := qx_5 (List.mem_of_getElem? (i := 175) rfl) rfl
theorem q_5_176 : Cond.methodLink "SoundDeskModel" 213 yX11_costOf ∈ lw_ws := qx_5 (List.mem_of_getElem? (i := 176) rfl) rfl
theorem q_5_178 : Cond.instanceMethod yX11_costOf ∈ lw_ws := qx_5 (List.mem_of_getElem? (i := 178) rfl) rfl
theorem q_5_179 : Cond.code yX11_costOf (prog_13_method_69_code) 4 (Option.some FieldType.int) ∈ lw_ws := qx_5 (List.mem_of_getElem? (i := 179) rfl) rfl
theorem q_5_180 : Cond.methodLink "SoundDeskLaw" 141 yX11_put ∈ lw_ws := qx_5 (List.mem_of_getElem? (i := 180) rfl) rfl
theorem q_5_181 : Cond.instanceMethod yX11_put ∈ lw_ws := qx_5 (List.mem_of_getElem? (i := 181) rfl) rfl
theorem q_5_182 : Cond.selects "SoundDeskModel" yX11_put yX11_put ∈ lw_ws := qx_5 (List.mem_of_getElem? (i := 182) rfl) rfl
theorem q_5_183 : Cond.code yX11_put (prog_13_method_72_code) 2 (Option.some FieldType.int) ∈ lw_ws := qx_5 (List.mem_of_getElem? (i := 183) rfl) rfl
theorem q_5_184 : Cond.methodLink "SoundDeskLaw" 145 yX11_check ∈ lw_ws := qx_5 (List.mem_of_getElem? (i := 184) rfl) rfl
theorem q_5_185 : Cond.instanceMethod yX11_check ∈ lw_ws := qx_5 (List.mem_of_getElem? (i := 185) rfl) rfl
theorem q_5_186 : Cond.selects "SoundDeskModel" yX11_check yX11_check ∈ lw_ws := qx_5 (List.mem_of_getElem? (i := 186) rfl) rfl
theorem q_5_187 : Cond.code yX11_check (prog_13_method_74_code) 6 (Option.some FieldType.int) ∈ lw_ws := qx_5 (List.mem_of_getElem? (i := 187) rfl) rfl
theorem q_5_188 : Cond.methodLink "SoundDeskModel" 219 yX11_isTold ∈ lw_ws := qx_5 (List.mem_of_getElem? (i := 188) rfl) rfl
theorem q_5_190 : Cond.instanceMethod yX11_isTold ∈ lw_ws := qx_5 (List.mem_of_getElem? (i := 190) rfl) rfl
theorem q_5_191 : Cond.code yX11_isTold (prog_13_method_73_code) 5 (Option.some FieldType.boolean) ∈ lw_ws := qx_5 (List.mem_of_getElem? (i := 191) rfl) rfl
theorem q_5_192 : Cond.methodLink "SoundDeskLaw" 149 yX11_keep ∈ lw_ws := qx_5 (List.mem_of_getElem? (i := 192) rfl) rfl
theorem q_5_193 : Cond.instanceMethod yX11_keep ∈ lw_ws := qx_5 (List.mem_of_getElem? (i := 193) rfl) rfl
theorem q_5_194 : Cond.selects "SoundDeskModel" yX11_keep yX11_keep ∈ lw_ws := qx_5 (List.mem_of_getElem? (i := 194) rfl) rfl
theorem q_5_195 : Cond.code yX11_keep (prog_13_method_75_code) 2 (Option.some FieldType.int) ∈ lw_ws := qx_5 (List.mem_of_getElem? (i := 195) rfl) rfl
theorem q_5_196 : Cond.methodLink "SoundDeskLaw" 153 yX11_again ∈ lw_ws := qx_5 (List.mem_of_getElem? (i := 196) rfl) rfl
theorem q_5_197 : Cond.instanceMethod yX11_again ∈ lw_ws := qx_5 (List.mem_of_getElem? (i := 197) rfl) rfl
theorem q_5_198 : Cond.selects "SoundDeskModel" yX11_again yX11_again ∈ lw_ws := qx_5 (List.mem_of_getElem? (i := 198) rfl) rfl
theorem q_5_199 : Cond.code yX11_again (prog_13_method_76_code) 2 (Option.some FieldType.int) ∈ lw_ws := qx_5 (List.mem_of_getElem? (i := 199) rfl) rfl
theorem q_5_200 : Cond.methodLink "SoundDeskLaw" 157 yX11_told ∈ lw_ws := qx_5 (List.mem_of_getElem? (i := 200) rfl) rfl
theorem q_5_201 : Cond.instanceMethod yX11_told ∈ lw_ws := qx_5 (List.mem_of_getElem? (i := 201) rfl) rfl
theorem q_5_202 : Cond.selects "SoundDeskModel" yX11_told yX11_told ∈ lw_ws := qx_5 (List.mem_of_getElem? (i := 202) rfl) rfl
theorem q_5_203 : Cond.code yX11_told (prog_13_method_77_code) 2 (Option.some FieldType.int) ∈ lw_ws := qx_5 (List.mem_of_getElem? (i := 203) rfl) rfl
