theorem gdX0 : wsX00.all goodWord = true := by decide +kernel
theorem inW0 : ∀ w ∈ wsX00, w ∈ wl := fun w hw => in_wl (inX0 w hw) (List.all_eq_true.mp gdX0 w hw)
theorem gdX1 : wsX10.all goodWord = true := by decide +kernel
theorem inW1 : ∀ w ∈ wsX10, w ∈ wl := fun w hw => in_wl (inX1 w hw) (List.all_eq_true.mp gdX1 w hw)
theorem gdX2 : wsX20.all goodWord = true := by decide +kernel
theorem inW2 : ∀ w ∈ wsX20, w ∈ wl := fun w hw => in_wl (inX2 w hw) (List.all_eq_true.mp gdX2 w hw)
theorem gdX3 : wsX30.all goodWord = true := by decide +kernel
theorem inW3 : ∀ w ∈ wsX30, w ∈ wl := fun w hw => in_wl (inX3 w hw) (List.all_eq_true.mp gdX3 w hw)
theorem gdX4 : wsX40.all goodWord = true := by decide +kernel
theorem inW4 : ∀ w ∈ wsX40, w ∈ wl := fun w hw => in_wl (inX4 w hw) (List.all_eq_true.mp gdX4 w hw)
theorem gdX5 : wsX50.all goodWord = true := by decide +kernel
theorem inW5 : ∀ w ∈ wsX50, w ∈ wl := fun w hw => in_wl (inX5 w hw) (List.all_eq_true.mp gdX5 w hw)
theorem gdX6 : wsX60.all goodWord = true := by decide +kernel
theorem inW6 : ∀ w ∈ wsX60, w ∈ wl := fun w hw => in_wl (inX6 w hw) (List.all_eq_true.mp gdX6 w hw)
theorem gdX7 : wsX70.all goodWord = true := by decide +kernel
theorem inW7 : ∀ w ∈ wsX70, w ∈ wl := fun w hw => in_wl (inX7 w hw) (List.all_eq_true.mp gdX7 w hw)
theorem gdX8 : wsX80.all goodWord = true := by decide +kernel
theorem inW8 : ∀ w ∈ wsX80, w ∈ wl := fun w hw => in_wl (inX8 w hw) (List.all_eq_true.mp gdX8 w hw)
theorem gdX9 : wsX90.all goodWord = true := by decide +kernel
theorem inW9 : ∀ w ∈ wsX90, w ∈ wl := fun w hw => in_wl (inX9 w hw) (List.all_eq_true.mp gdX9 w hw)
theorem gdX10 : wsX100.all goodWord = true := by decide +kernel
theorem inW10 : ∀ w ∈ wsX100, w ∈ wl := fun w hw => in_wl (inX10 w hw) (List.all_eq_true.mp gdX10 w hw)
theorem fo_X0_25 : FO RX0 25 0 1 := ⟨RX0, TX0, 6, rfl, inW0, by decide, in_wl (List.mem_append_right _ (List.mem_of_getElem? (i := 268) (by decide +kernel))) rfl⟩
theorem sh_35 : shp[35]? = some (.inl (0, [5, 15, 33, 38, 39, 40])) := rfl
theorem fo_X0_33 : FO RX0 33 3 4 := ⟨RX3, TX3, 15, rfl, inW3, by decide, in_wl (List.mem_append_right _ (List.mem_of_getElem? (i := 109) (by decide +kernel))) rfl⟩
theorem sh_13 : shp[13]? = some (.inl (3, [16, 17, 18, 19, 20, 21, 22, 23, 24, 25, 0, 0, 0, 0, 0])) := rfl
theorem sh_18 : shp[18]? = some (.inr (32, 0)) := rfl
theorem kc_m1 : Int32.ofInt (-1) = (-1) := by decide
theorem fo_X0_21 : FO RX0 21 0 0 := ⟨RX0, TX0, 6, rfl, inW0, by decide, in_wl (List.mem_append_right _ (List.mem_of_getElem? (i := 267) (by decide +kernel))) rfl⟩
theorem fo_X0_41 : FO RX0 41 3 1 := ⟨RX3, TX3, 15, rfl, inW3, by decide, in_wl (List.mem_append_right _ (List.mem_of_getElem? (i := 101) (by decide +kernel))) rfl⟩
theorem fo_X0_44 : FO RX0 44 3 2 := ⟨RX3, TX3, 15, rfl, inW3, by decide, in_wl (List.mem_append_right _ (List.mem_of_getElem? (i := 103) (by decide +kernel))) rfl⟩
theorem sh_16 : shp[16]? = some (.inr (32, 0)) := rfl
theorem sh_15 : shp[15]? = some (.inr (8, 0)) := rfl
theorem ci_X1_widthOf : CIx yX1_widthOf cX1_widthOf 3 (some .int) 2 := ⟨in_wl (List.mem_append_right _ (List.mem_of_getElem? (i := 509) (by decide +kernel))) rfl, in_wl (List.mem_append_right _ (List.mem_of_getElem? (i := 3) (by decide +kernel))) rfl, by decide +kernel⟩
theorem ml_X0_47 : Cond.methodLink RX0 47 yX1_widthOf ∈ wl := in_wl (List.mem_append_right _ (List.mem_of_getElem? (i := 651) (by decide +kernel))) rfl
theorem mi_X1_widthOf : Cond.instanceMethod yX1_widthOf ∈ wl ∧ Cond.selects yX1_widthOf.cls yX1_widthOf yX1_widthOf ∈ wl := ⟨in_wl (List.mem_append_right _ (List.mem_of_getElem? (i := 507) (by decide +kernel))) rfl, in_wl (List.mem_append_right _ (List.mem_of_getElem? (i := 508) (by decide +kernel))) rfl⟩
theorem sh_3 : shp[3]? = some (.inl (1, [6, 7, 8, 9, 10, 11, 12, 13, 14, 0])) := rfl
theorem fo_X0_38 : FO RX0 38 3 7 := ⟨RX3, TX3, 15, rfl, inW3, by decide, in_wl (List.mem_append_right _ (List.mem_of_getElem? (i := 116) (by decide +kernel))) rfl⟩
theorem sh_21 : shp[21]? = some (.inr (32, 0)) := rfl
theorem fo_X1_21 : FO RX1 21 1 3 := ⟨RX1, TX1, 10, rfl, inW1, by decide, in_wl (List.mem_append_right _ (List.mem_of_getElem? (i := 57) (by decide +kernel))) rfl⟩
theorem kb_10 : (Int8.ofInt 10).toInt32 = 10 := by decide
theorem sh_7 : shp[7]? = some (.inr (20, 0)) := rfl
theorem ci_X0_widthAt : CIx yX0_widthAt cX0_widthAt 3 (some .int) 1 := ⟨in_wl (List.mem_append_right _ (List.mem_of_getElem? (i := 650) (by decide +kernel))) rfl, in_wl (List.mem_append_right _ (List.mem_of_getElem? (i := 9) (by decide +kernel))) rfl, by decide +kernel⟩
theorem ml_X0_53 : Cond.methodLink RX0 53 yX0_widthAt ∈ wl := in_wl (List.mem_append_right _ (List.mem_of_getElem? (i := 686) (by decide +kernel))) rfl
theorem mi_X0_widthAt : Cond.instanceMethod yX0_widthAt ∈ wl ∧ Cond.selects yX0_widthAt.cls yX0_widthAt yX0_widthAt ∈ wl := ⟨in_wl (List.mem_append_right _ (List.mem_of_getElem? (i := 648) (by decide +kernel))) rfl, in_wl (List.mem_append_right _ (List.mem_of_getElem? (i := 649) (by decide +kernel))) rfl⟩
theorem ci_X1_asWideAs : CIx yX1_asWideAs cX1_asWideAs 6 (some .int) 3 := ⟨in_wl (List.mem_append_right _ (List.mem_of_getElem? (i := 690) (by decide +kernel))) rfl, in_wl (List.mem_append_right _ (List.mem_of_getElem? (i := 3) (by decide +kernel))) rfl, by decide +kernel⟩
theorem ml_X0_57 : Cond.methodLink RX0 57 yX1_asWideAs ∈ wl := in_wl (List.mem_append_right _ (List.mem_of_getElem? (i := 687) (by decide +kernel))) rfl
theorem mi_X1_asWideAs : Cond.instanceMethod yX1_asWideAs ∈ wl ∧ Cond.selects yX1_asWideAs.cls yX1_asWideAs yX1_asWideAs ∈ wl := ⟨in_wl (List.mem_append_right _ (List.mem_of_getElem? (i := 688) (by decide +kernel))) rfl, in_wl (List.mem_append_right _ (List.mem_of_getElem? (i := 689) (by decide +kernel))) rfl⟩
theorem fo_X0_61 : FO RX0 61 3 3 := ⟨RX3, TX3, 15, rfl, inW3, by decide, in_wl (List.mem_append_right _ (List.mem_of_getElem? (i := 106) (by decide +kernel))) rfl⟩
theorem sh_17 : shp[17]? = some (.inr (32, 0)) := rfl
theorem fo_X0_64 : FO RX0 64 3 0 := ⟨RX3, TX3, 15, rfl, inW3, by decide, in_wl (List.mem_append_right _ (List.mem_of_getElem? (i := 99) (by decide +kernel))) rfl⟩
theorem sh_14 : shp[14]? = some (.inr (8, 0)) := rfl
theorem ci_X1_servingOn : CIx yX1_servingOn cX1_servingOn 5 (some .int) 2 := ⟨in_wl (List.mem_append_right _ (List.mem_of_getElem? (i := 695) (by decide +kernel))) rfl, in_wl (List.mem_append_right _ (List.mem_of_getElem? (i := 3) (by decide +kernel))) rfl, by decide +kernel⟩
theorem ml_X0_67 : Cond.methodLink RX0 67 yX1_servingOn ∈ wl := in_wl (List.mem_append_right _ (List.mem_of_getElem? (i := 692) (by decide +kernel))) rfl
theorem mi_X1_servingOn : Cond.instanceMethod yX1_servingOn ∈ wl ∧ Cond.selects yX1_servingOn.cls yX1_servingOn yX1_servingOn ∈ wl := ⟨in_wl (List.mem_append_right _ (List.mem_of_getElem? (i := 693) (by decide +kernel))) rfl, in_wl (List.mem_append_right _ (List.mem_of_getElem? (i := 694) (by decide +kernel))) rfl⟩
theorem kc_0 : Int32.ofInt 0 = 0 := by decide
theorem fo_X1_39 : FO RX1 39 1 9 := ⟨RX1, TX1, 10, rfl, inW1, by decide, in_wl (List.mem_append_right _ (List.mem_of_getElem? (i := 68) (by decide +kernel))) rfl⟩
theorem ml_X1_84 : Cond.methodLink RX1 84 yX1_widthOf ∈ wl := in_wl (List.mem_append_right _ (List.mem_of_getElem? (i := 691) (by decide +kernel))) rfl
theorem ci_X9_within : CIx yX9_within cX9_within 3 (some .boolean) 3 := ⟨in_wl (List.mem_append_right _ (List.mem_of_getElem? (i := 410) (by decide +kernel))) rfl, in_wl (List.mem_append_right _ (List.mem_of_getElem? (i := 1) (by decide +kernel))) rfl, by decide +kernel⟩
theorem ml_X1_49 : (RX1, 49, yX9_within, "UnderBars") ∈ nestL := by decide +kernel
theorem ms_X9_within : Cond.static yX9_within ∈ wl := in_wl (List.mem_append_right _ (List.mem_of_getElem? (i := 409) (by decide +kernel))) rfl
theorem kc_1 : Int32.ofInt 1 = 1 := by decide
theorem fo_X1_24 : FO RX1 24 1 4 := ⟨RX1, TX1, 10, rfl, inW1, by decide, in_wl (List.mem_append_right _ (List.mem_of_getElem? (i := 58) (by decide +kernel))) rfl⟩
theorem sh_8 : shp[8]? = some (.inr (10, 0)) := rfl
theorem ci_X9_has : CIx yX9_has cX9_has 2 (some .boolean) 2 := ⟨in_wl (List.mem_append_right _ (List.mem_of_getElem? (i := 497) (by decide +kernel))) rfl, in_wl (List.mem_append_right _ (List.mem_of_getElem? (i := 1) (by decide +kernel))) rfl, by decide +kernel⟩
theorem ml_X1_75 : (RX1, 75, yX9_has, "UnderBars") ∈ nestL := by decide +kernel
theorem ms_X9_has : Cond.static yX9_has ∈ wl := in_wl (List.mem_append_right _ (List.mem_of_getElem? (i := 496) (by decide +kernel))) rfl
theorem fo_X1_27 : FO RX1 27 1 5 := ⟨RX1, TX1, 10, rfl, inW1, by decide, in_wl (List.mem_append_right _ (List.mem_of_getElem? (i := 60) (by decide +kernel))) rfl⟩
theorem sh_9 : shp[9]? = some (.inr (10, 0)) := rfl
theorem fo_X1_30 : FO RX1 30 1 6 := ⟨RX1, TX1, 10, rfl, inW1, by decide, in_wl (List.mem_append_right _ (List.mem_of_getElem? (i := 62) (by decide +kernel))) rfl⟩
theorem sh_10 : shp[10]? = some (.inr (10, 0)) := rfl
theorem fo_X0_70 : FO RX0 70 3 11 := ⟨RX3, TX3, 15, rfl, inW3, by decide, in_wl (List.mem_append_right _ (List.mem_of_getElem? (i := 126) (by decide +kernel))) rfl⟩
theorem fo_X0_9 : FO RX0 9 0 3 := ⟨RX0, TX0, 6, rfl, inW0, by decide, in_wl (List.mem_append_right _ (List.mem_of_getElem? (i := 270) (by decide +kernel))) rfl⟩
theorem ci_X0_fittingAt : CIx yX0_fittingAt cX0_fittingAt 4 (some .int) 2 := ⟨in_wl (List.mem_append_right _ (List.mem_of_getElem? (i := 685) (by decide +kernel))) rfl, in_wl (List.mem_append_right _ (List.mem_of_getElem? (i := 9) (by decide +kernel))) rfl, by decide +kernel⟩
theorem ml_X0_74 : Cond.methodLink RX0 74 yX0_fittingAt ∈ wl := in_wl (List.mem_append_right _ (List.mem_of_getElem? (i := 682) (by decide +kernel))) rfl
theorem mi_X0_fittingAt : Cond.instanceMethod yX0_fittingAt ∈ wl ∧ Cond.selects yX0_fittingAt.cls yX0_fittingAt yX0_fittingAt ∈ wl := ⟨in_wl (List.mem_append_right _ (List.mem_of_getElem? (i := 683) (by decide +kernel))) rfl, in_wl (List.mem_append_right _ (List.mem_of_getElem? (i := 684) (by decide +kernel))) rfl⟩
theorem sh_36 : shp[36]? = some (.inr (32, 0)) := rfl
theorem ml_X0_77 : (RX0, 77, yX9_has, "UnderBars") ∈ nestL := by decide +kernel
theorem ci_X3_isShown : CIx yX3_isShown cX3_isShown 4 (some .boolean) 2 := ⟨in_wl (List.mem_append_right _ (List.mem_of_getElem? (i := 708) (by decide +kernel))) rfl, in_wl (List.mem_append_right _ (List.mem_of_getElem? (i := 5) (by decide +kernel))) rfl, by decide +kernel⟩
theorem ml_X0_81 : Cond.methodLink RX0 81 yX3_isShown ∈ wl := in_wl (List.mem_append_right _ (List.mem_of_getElem? (i := 705) (by decide +kernel))) rfl
theorem mi_X3_isShown : Cond.instanceMethod yX3_isShown ∈ wl ∧ Cond.selects yX3_isShown.cls yX3_isShown yX3_isShown ∈ wl := ⟨in_wl (List.mem_append_right _ (List.mem_of_getElem? (i := 706) (by decide +kernel))) rfl, in_wl (List.mem_append_right _ (List.mem_of_getElem? (i := 707) (by decide +kernel))) rfl⟩
theorem fo_X3_27 : FO RX3 27 3 5 := ⟨RX3, TX3, 15, rfl, inW3, by decide, in_wl (List.mem_append_right _ (List.mem_of_getElem? (i := 111) (by decide +kernel))) rfl⟩
theorem sh_19 : shp[19]? = some (.inr (32, 0)) := rfl
theorem kb_8 : (Int8.ofInt 8).toInt32 = 8 := by decide
theorem ml_X3_84 : (RX3, 84, yX9_has, "UnderBars") ∈ nestL := by decide +kernel
theorem ci_X0_shutOutByShown : CIx yX0_shutOutByShown cX0_shutOutByShown 3 none 1 := ⟨in_wl (List.mem_append_right _ (List.mem_of_getElem? (i := 703) (by decide +kernel))) rfl, in_wl (List.mem_append_right _ (List.mem_of_getElem? (i := 9) (by decide +kernel))) rfl, by decide +kernel⟩
theorem ml_X0_84 : Cond.methodLink RX0 84 yX0_shutOutByShown ∈ wl := in_wl (List.mem_append_right _ (List.mem_of_getElem? (i := 700) (by decide +kernel))) rfl
theorem mi_X0_shutOutByShown : Cond.instanceMethod yX0_shutOutByShown ∈ wl ∧ Cond.selects yX0_shutOutByShown.cls yX0_shutOutByShown yX0_shutOutByShown ∈ wl := ⟨in_wl (List.mem_append_right _ (List.mem_of_getElem? (i := 702) (by decide +kernel))) rfl, in_wl (List.mem_of_getElem? (i := 15) (by decide +kernel)) rfl⟩
theorem fo_X0_29 : FO RX0 29 0 2 := ⟨RX0, TX0, 6, rfl, inW0, by decide, in_wl (List.mem_append_right _ (List.mem_of_getElem? (i := 269) (by decide +kernel))) rfl⟩
theorem fo_X0_88 : FO RX0 88 6 3 := ⟨RX6, TX6, 4, rfl, inW6, by decide, in_wl (List.mem_append_right _ (List.mem_of_getElem? (i := 250) (by decide +kernel))) rfl⟩
theorem fp_6_3 : FP 6 3 .int := ⟨RX6, TX6, 4, tyX6, rfl, tyX6_ok, nmX6, rfl, by decide +kernel⟩
theorem sh_31 : shp[31]? = some (.inl (6, [34, 35, 36, 0])) := rfl
theorem ci_X0_layTwins : CIx yX0_layTwins cX0_layTwins 4 none 1 := ⟨in_wl (List.mem_append_right _ (List.mem_of_getElem? (i := 726) (by decide +kernel))) rfl, in_wl (List.mem_append_right _ (List.mem_of_getElem? (i := 9) (by decide +kernel))) rfl, by decide +kernel⟩
theorem ml_X0_103 : Cond.methodLink RX0 103 yX0_layTwins ∈ wl := in_wl (List.mem_append_right _ (List.mem_of_getElem? (i := 723) (by decide +kernel))) rfl
theorem mi_X0_layTwins : Cond.instanceMethod yX0_layTwins ∈ wl ∧ Cond.selects yX0_layTwins.cls yX0_layTwins yX0_layTwins ∈ wl := ⟨in_wl (List.mem_append_right _ (List.mem_of_getElem? (i := 725) (by decide +kernel))) rfl, in_wl (List.mem_of_getElem? (i := 17) (by decide +kernel)) rfl⟩
theorem fo_X0_93 : FO RX0 93 3 6 := ⟨RX3, TX3, 15, rfl, inW3, by decide, in_wl (List.mem_append_right _ (List.mem_of_getElem? (i := 113) (by decide +kernel))) rfl⟩
theorem sh_20 : shp[20]? = some (.inr (32, 0)) := rfl
theorem ci_X0_noteSlot : CIx yX0_noteSlot cX0_noteSlot 2 none 1 := ⟨in_wl (List.mem_append_right _ (List.mem_of_getElem? (i := 718) (by decide +kernel))) rfl, in_wl (List.mem_append_right _ (List.mem_of_getElem? (i := 9) (by decide +kernel))) rfl, by decide +kernel⟩
theorem ml_X0_96 : Cond.methodLink RX0 96 yX0_noteSlot ∈ wl := in_wl (List.mem_append_right _ (List.mem_of_getElem? (i := 715) (by decide +kernel))) rfl
theorem mi_X0_noteSlot : Cond.instanceMethod yX0_noteSlot ∈ wl ∧ Cond.selects yX0_noteSlot.cls yX0_noteSlot yX0_noteSlot ∈ wl := ⟨in_wl (List.mem_append_right _ (List.mem_of_getElem? (i := 717) (by decide +kernel))) rfl, in_wl (List.mem_of_getElem? (i := 16) (by decide +kernel)) rfl⟩
theorem fo_X0_15 : FO RX0 15 0 4 := ⟨RX0, TX0, 6, rfl, inW0, by decide, in_wl (List.mem_append_right _ (List.mem_of_getElem? (i := 271) (by decide +kernel))) rfl⟩
theorem sh_37 : shp[37]? = some (.inr (8, 0)) := rfl
theorem ci_X6_add : CIx yX6_add cX6_add 3 none 2 := ⟨in_wl (List.mem_append_right _ (List.mem_of_getElem? (i := 722) (by decide +kernel))) rfl, in_wl (List.mem_append_right _ (List.mem_of_getElem? (i := 8) (by decide +kernel))) rfl, by decide +kernel⟩
theorem ml_X0_99 : Cond.methodLink RX0 99 yX6_add ∈ wl := in_wl (List.mem_append_right _ (List.mem_of_getElem? (i := 719) (by decide +kernel))) rfl
theorem mi_X6_add : Cond.instanceMethod yX6_add ∈ wl ∧ Cond.selects yX6_add.cls yX6_add yX6_add ∈ wl := ⟨in_wl (List.mem_append_right _ (List.mem_of_getElem? (i := 720) (by decide +kernel))) rfl, in_wl (List.mem_append_right _ (List.mem_of_getElem? (i := 721) (by decide +kernel))) rfl⟩
theorem fo_X0_115 : FO RX0 115 3 13 := ⟨RX3, TX3, 15, rfl, inW3, by decide, in_wl (List.mem_append_right _ (List.mem_of_getElem? (i := 131) (by decide +kernel))) rfl⟩
theorem fo_X0_118 : FO RX0 118 3 9 := ⟨RX3, TX3, 15, rfl, inW3, by decide, in_wl (List.mem_append_right _ (List.mem_of_getElem? (i := 121) (by decide +kernel))) rfl⟩
theorem sh_23 : shp[23]? = some (.inr (10, 0)) := rfl
theorem ci_X0_isLaid : CIx yX0_isLaid cX0_isLaid 3 (some .boolean) 2 := ⟨in_wl (List.mem_append_right _ (List.mem_of_getElem? (i := 730) (by decide +kernel))) rfl, in_wl (List.mem_append_right _ (List.mem_of_getElem? (i := 9) (by decide +kernel))) rfl, by decide +kernel⟩
theorem ml_X0_121 : Cond.methodLink RX0 121 yX0_isLaid ∈ wl := in_wl (List.mem_append_right _ (List.mem_of_getElem? (i := 727) (by decide +kernel))) rfl
theorem mi_X0_isLaid : Cond.instanceMethod yX0_isLaid ∈ wl ∧ Cond.selects yX0_isLaid.cls yX0_isLaid yX0_isLaid ∈ wl := ⟨in_wl (List.mem_append_right _ (List.mem_of_getElem? (i := 729) (by decide +kernel))) rfl, in_wl (List.mem_of_getElem? (i := 18) (by decide +kernel)) rfl⟩
theorem fo_X0_124 : FO RX0 124 6 2 := ⟨RX6, TX6, 4, rfl, inW6, by decide, in_wl (List.mem_append_right _ (List.mem_of_getElem? (i := 247) (by decide +kernel))) rfl⟩
theorem fo_X0_18 : FO RX0 18 0 5 := ⟨RX0, TX0, 6, rfl, inW0, by decide, in_wl (List.mem_append_right _ (List.mem_of_getElem? (i := 272) (by decide +kernel))) rfl⟩
theorem sh_38 : shp[38]? = some (.inr (10, 0)) := rfl
theorem sh_34 : shp[34]? = some (.inr (18, 0)) := rfl
theorem fo_X0_127 : FO RX0 127 3 8 := ⟨RX3, TX3, 15, rfl, inW3, by decide, in_wl (List.mem_append_right _ (List.mem_of_getElem? (i := 118) (by decide +kernel))) rfl⟩
theorem sh_22 : shp[22]? = some (.inr (10, 0)) := rfl
theorem ci_J7_fill_53178 : CIx yJ7_fill_53178 cJ7_fill_53178 4 none 2 := ⟨in_wl (List.mem_append_right _ (List.mem_of_getElem? (i := 52) (by decide +kernel))) rfl, in_wl (List.mem_append_right _ (List.mem_of_getElem? (i := 4) (by decide +kernel))) rfl, by decide +kernel⟩
theorem ml_X0_106 : Cond.methodLink RX0 106 yJ7_fill_53178 ∈ wl := in_wl (List.mem_append_right _ (List.mem_of_getElem? (i := 704) (by decide +kernel))) rfl
theorem ms_J7_fill_53178 : Cond.static yJ7_fill_53178 ∈ wl := in_wl (List.mem_append_right _ (List.mem_of_getElem? (i := 51) (by decide +kernel))) rfl
theorem ci_X1_shutOutBy : CIx yX1_shutOutBy cX1_shutOutBy 2 (some .int) 1 := ⟨in_wl (List.mem_append_right _ (List.mem_of_getElem? (i := 713) (by decide +kernel))) rfl, in_wl (List.mem_append_right _ (List.mem_of_getElem? (i := 3) (by decide +kernel))) rfl, by decide +kernel⟩
theorem ml_X0_112 : Cond.methodLink RX0 112 yX1_shutOutBy ∈ wl := in_wl (List.mem_append_right _ (List.mem_of_getElem? (i := 710) (by decide +kernel))) rfl
theorem mi_X1_shutOutBy : Cond.instanceMethod yX1_shutOutBy ∈ wl ∧ Cond.selects yX1_shutOutBy.cls yX1_shutOutBy yX1_shutOutBy ∈ wl := ⟨in_wl (List.mem_append_right _ (List.mem_of_getElem? (i := 711) (by decide +kernel))) rfl, in_wl (List.mem_append_right _ (List.mem_of_getElem? (i := 712) (by decide +kernel))) rfl⟩
theorem fo_X1_36 : FO RX1 36 1 8 := ⟨RX1, TX1, 10, rfl, inW1, by decide, in_wl (List.mem_append_right _ (List.mem_of_getElem? (i := 67) (by decide +kernel))) rfl⟩
theorem sh_12 : shp[12]? = some (.inr (10, 0)) := rfl
theorem fo_X6_21 : FO RX6 21 6 3 := ⟨RX6, TX6, 4, rfl, inW6, by decide, in_wl (List.mem_append_right _ (List.mem_of_getElem? (i := 248) (by decide +kernel))) rfl⟩
theorem kb_18 : (Int8.ofInt 18).toInt32 = 18 := by decide
theorem fo_X6_9 : FO RX6 9 6 0 := ⟨RX6, TX6, 4, rfl, inW6, by decide, in_wl (List.mem_append_right _ (List.mem_of_getElem? (i := 241) (by decide +kernel))) rfl⟩
theorem sh_32 : shp[32]? = some (.inr (18, 0)) := rfl
theorem fo_X6_15 : FO RX6 15 6 1 := ⟨RX6, TX6, 4, rfl, inW6, by decide, in_wl (List.mem_append_right _ (List.mem_of_getElem? (i := 242) (by decide +kernel))) rfl⟩
theorem sh_33 : shp[33]? = some (.inr (18, 0)) := rfl
theorem fo_X6_18 : FO RX6 18 6 2 := ⟨RX6, TX6, 4, rfl, inW6, by decide, in_wl (List.mem_append_right _ (List.mem_of_getElem? (i := 245) (by decide +kernel))) rfl⟩
theorem ci_X9_allBelow : CIx yX9_allBelow cX9_allBelow 1 (some .int) 1 := ⟨in_wl (List.mem_append_right _ (List.mem_of_getElem? (i := 468) (by decide +kernel))) rfl, in_wl (List.mem_append_right _ (List.mem_of_getElem? (i := 1) (by decide +kernel))) rfl, by decide +kernel⟩
theorem ml_X1_53 : (RX1, 53, yX9_allBelow, "UnderBars") ∈ nestL := by decide +kernel
theorem ms_X9_allBelow : Cond.static yX9_allBelow ∈ wl := in_wl (List.mem_append_right _ (List.mem_of_getElem? (i := 467) (by decide +kernel))) rfl
theorem fo_X1_9 : FO RX1 9 1 0 := ⟨RX1, TX1, 10, rfl, inW1, by decide, in_wl (List.mem_append_right _ (List.mem_of_getElem? (i := 53) (by decide +kernel))) rfl⟩
theorem kb_26 : (Int8.ofInt 26).toInt32 = 26 := by decide
theorem sh_4 : shp[4]? = some (.inr (52, 0)) := rfl
theorem ci_X1_measureName : CIx yX1_measureName cX1_measureName 5 none 2 := ⟨in_wl (List.mem_append_right _ (List.mem_of_getElem? (i := 418) (by decide +kernel))) rfl, in_wl (List.mem_append_right _ (List.mem_of_getElem? (i := 3) (by decide +kernel))) rfl, by decide +kernel⟩
theorem ml_X1_57 : Cond.methodLink RX1 57 yX1_measureName ∈ wl := in_wl (List.mem_append_right _ (List.mem_of_getElem? (i := 415) (by decide +kernel))) rfl
theorem mi_X1_measureName : Cond.instanceMethod yX1_measureName ∈ wl ∧ Cond.selects yX1_measureName.cls yX1_measureName yX1_measureName ∈ wl := ⟨in_wl (List.mem_append_right _ (List.mem_of_getElem? (i := 417) (by decide +kernel))) rfl, in_wl (List.mem_of_getElem? (i := 0) (by decide +kernel)) rfl⟩
theorem fo_X1_18 : FO RX1 18 1 2 := ⟨RX1, TX1, 10, rfl, inW1, by decide, in_wl (List.mem_append_right _ (List.mem_of_getElem? (i := 55) (by decide +kernel))) rfl⟩
theorem sh_6 : shp[6]? = some (.inr (10, 0)) := rfl
theorem fo_X1_15 : FO RX1 15 1 1 := ⟨RX1, TX1, 10, rfl, inW1, by decide, in_wl (List.mem_append_right _ (List.mem_of_getElem? (i := 54) (by decide +kernel))) rfl⟩
theorem kb_12 : (Int8.ofInt 12).toInt32 = 12 := by decide
theorem sh_5 : shp[5]? = some (.inr (120, 0)) := rfl
theorem ci_X1_isWritten : CIx yX1_isWritten cX1_isWritten 5 (some .boolean) 3 := ⟨in_wl (List.mem_append_right _ (List.mem_of_getElem? (i := 459) (by decide +kernel))) rfl, in_wl (List.mem_append_right _ (List.mem_of_getElem? (i := 3) (by decide +kernel))) rfl, by decide +kernel⟩
theorem ml_X1_61 : Cond.methodLink RX1 61 yX1_isWritten ∈ wl := in_wl (List.mem_append_right _ (List.mem_of_getElem? (i := 456) (by decide +kernel))) rfl
theorem mi_X1_isWritten : Cond.instanceMethod yX1_isWritten ∈ wl ∧ Cond.selects yX1_isWritten.cls yX1_isWritten yX1_isWritten ∈ wl := ⟨in_wl (List.mem_append_right _ (List.mem_of_getElem? (i := 458) (by decide +kernel))) rfl, in_wl (List.mem_of_getElem? (i := 2) (by decide +kernel)) rfl⟩
theorem ci_X8_at : CIx yX8_at cX8_at 2 (some .int) 1 := ⟨in_wl (List.mem_append_right _ (List.mem_of_getElem? (i := 450) (by decide +kernel))) rfl, in_wl (List.mem_append_right _ (List.mem_of_getElem? (i := 2) (by decide +kernel))) rfl, by decide +kernel⟩
theorem ml_X1_65 : Cond.methodLink RX1 65 yX8_at ∈ wl := in_wl (List.mem_append_right _ (List.mem_of_getElem? (i := 460) (by decide +kernel))) rfl
theorem mi_X8_at : Cond.instanceMethod yX8_at ∈ wl ∧ Cond.selects yX8_at.cls yX8_at yX8_at ∈ wl := ⟨in_wl (List.mem_append_right _ (List.mem_of_getElem? (i := 448) (by decide +kernel))) rfl, in_wl (List.mem_append_right _ (List.mem_of_getElem? (i := 449) (by decide +kernel))) rfl⟩
theorem sh_1 : shp[1]? = some (.inl (8, [4, 0])) := rfl
theorem kb_97 : (Int8.ofInt 97).toInt32 = 97 := by decide
theorem fo_X8_15 : FO RX8 15 8 1 := ⟨RX8, TX8, 2, rfl, inW8, by decide, in_wl (List.mem_append_right _ (List.mem_of_getElem? (i := 34) (by decide +kernel))) rfl⟩
theorem fo_X8_9 : FO RX8 9 8 0 := ⟨RX8, TX8, 2, rfl, inW8, by decide, in_wl (List.mem_append_right _ (List.mem_of_getElem? (i := 33) (by decide +kernel))) rfl⟩
theorem sh_2 : shp[2]? = some (.inr (120, 0)) := rfl
theorem ci_X8_isRowOfLetters : CIx yX8_isRowOfLetters cX8_isRowOfLetters 1 (some .boolean) 0 := ⟨in_wl (List.mem_append_right _ (List.mem_of_getElem? (i := 438) (by decide +kernel))) rfl, in_wl (List.mem_append_right _ (List.mem_of_getElem? (i := 2) (by decide +kernel))) rfl, by decide +kernel⟩
theorem ml_X1_70 : Cond.methodLink RX1 70 yX8_isRowOfLetters ∈ wl := in_wl (List.mem_append_right _ (List.mem_of_getElem? (i := 465) (by decide +kernel))) rfl
theorem mi_X8_isRowOfLetters : Cond.instanceMethod yX8_isRowOfLetters ∈ wl ∧ Cond.selects yX8_isRowOfLetters.cls yX8_isRowOfLetters yX8_isRowOfLetters ∈ wl := ⟨in_wl (List.mem_append_right _ (List.mem_of_getElem? (i := 436) (by decide +kernel))) rfl, in_wl (List.mem_append_right _ (List.mem_of_getElem? (i := 437) (by decide +kernel))) rfl⟩
theorem fo_X1_74 : FO RX1 74 8 1 := ⟨RX8, TX8, 2, rfl, inW8, by decide, in_wl (List.mem_append_right _ (List.mem_of_getElem? (i := 37) (by decide +kernel))) rfl⟩
theorem fp_1_9 : FP 1 9 .int := ⟨RX1, TX1, 10, tyX1, rfl, tyX1_ok, nmX1, rfl, by decide +kernel⟩
theorem kc_2 : Int32.ofInt 2 = 2 := by decide
theorem kc_4 : Int32.ofInt 4 = 4 := by decide
theorem kb_99 : (Int8.ofInt 99).toInt32 = 99 := by decide
theorem fo_X1_33 : FO RX1 33 1 7 := ⟨RX1, TX1, 10, rfl, inW1, by decide, in_wl (List.mem_append_right _ (List.mem_of_getElem? (i := 64) (by decide +kernel))) rfl⟩
theorem sh_11 : shp[11]? = some (.inr (10, 0)) := rfl
theorem ci_X8_endOfWord : CIx yX8_endOfWord cX8_endOfWord 3 (some .int) 1 := ⟨in_wl (List.mem_append_right _ (List.mem_of_getElem? (i := 442) (by decide +kernel))) rfl, in_wl (List.mem_append_right _ (List.mem_of_getElem? (i := 2) (by decide +kernel))) rfl, by decide +kernel⟩
theorem ml_X8_31 : Cond.methodLink RX8 31 yX8_endOfWord ∈ wl := in_wl (List.mem_append_right _ (List.mem_of_getElem? (i := 439) (by decide +kernel))) rfl
theorem mi_X8_endOfWord : Cond.instanceMethod yX8_endOfWord ∈ wl ∧ Cond.selects yX8_endOfWord.cls yX8_endOfWord yX8_endOfWord ∈ wl := ⟨in_wl (List.mem_append_right _ (List.mem_of_getElem? (i := 440) (by decide +kernel))) rfl, in_wl (List.mem_append_right _ (List.mem_of_getElem? (i := 441) (by decide +kernel))) rfl⟩
theorem ci_X8_isLetter : CIx yX8_isLetter cX8_isLetter 2 (some .boolean) 1 := ⟨in_wl (List.mem_append_right _ (List.mem_of_getElem? (i := 446) (by decide +kernel))) rfl, in_wl (List.mem_append_right _ (List.mem_of_getElem? (i := 2) (by decide +kernel))) rfl, by decide +kernel⟩
theorem ml_X8_27 : Cond.methodLink RX8 27 yX8_isLetter ∈ wl := in_wl (List.mem_append_right _ (List.mem_of_getElem? (i := 443) (by decide +kernel))) rfl
theorem mi_X8_isLetter : Cond.instanceMethod yX8_isLetter ∈ wl ∧ Cond.selects yX8_isLetter.cls yX8_isLetter yX8_isLetter ∈ wl := ⟨in_wl (List.mem_append_right _ (List.mem_of_getElem? (i := 444) (by decide +kernel))) rfl, in_wl (List.mem_append_right _ (List.mem_of_getElem? (i := 445) (by decide +kernel))) rfl⟩
theorem ml_X8_19 : Cond.methodLink RX8 19 yX8_at ∈ wl := in_wl (List.mem_append_right _ (List.mem_of_getElem? (i := 447) (by decide +kernel))) rfl
theorem kb_122 : (Int8.ofInt 122).toInt32 = 122 := by decide
theorem ml_X8_23 : (RX8, 23, yX9_within, "UnderBars") ∈ nestL := by decide +kernel
theorem ci_J6_bitCount_0f7a4 : CIx yJ6_bitCount_0f7a4 cJ6_bitCount_0f7a4 1 (some .int) 1 := ⟨in_wl (List.mem_append_right _ (List.mem_of_getElem? (i := 520) (by decide +kernel))) rfl, in_wl (List.mem_append_right _ (List.mem_of_getElem? (i := 13) (by decide +kernel))) rfl, by decide +kernel⟩
theorem ml_X1_79 : Cond.methodLink RX1 79 yJ6_bitCount_0f7a4 ∈ wl := in_wl (List.mem_append_right _ (List.mem_of_getElem? (i := 518) (by decide +kernel))) rfl
theorem ms_J6_bitCount_0f7a4 : Cond.static yJ6_bitCount_0f7a4 ∈ wl := in_wl (List.mem_append_right _ (List.mem_of_getElem? (i := 519) (by decide +kernel))) rfl
theorem ki_J6_265 : Cond.constant RJ6 265 1431655765 ∈ wl := in_wl (List.mem_append_right _ (List.mem_of_getElem? (i := 521) (by decide +kernel))) rfl
theorem ki_J6_266 : Cond.constant RJ6 266 858993459 ∈ wl := in_wl (List.mem_append_right _ (List.mem_of_getElem? (i := 522) (by decide +kernel))) rfl
theorem ki_J6_267 : Cond.constant RJ6 267 252645135 ∈ wl := in_wl (List.mem_append_right _ (List.mem_of_getElem? (i := 523) (by decide +kernel))) rfl
theorem kb_16 : (Int8.ofInt 16).toInt32 = 16 := by decide
theorem kb_63 : (Int8.ofInt 63).toInt32 = 63 := by decide
theorem fo_X2_29 : FO RX2 29 2 5 := ⟨RX2, TX2, 13, rfl, inW2, by decide, in_wl (List.mem_append_right _ (List.mem_of_getElem? (i := 180) (by decide +kernel))) rfl⟩
theorem fp_2_5 : FP 2 5 .int := ⟨RX2, TX2, 13, tyX2, rfl, tyX2_ok, nmX2, rfl, by decide +kernel⟩
theorem sh_24 : shp[24]? = some (.inl (2, [3, 5, 27, 28, 29, 0, 0, 0, 0, 0, 0, 0, 0])) := rfl
theorem fo_X2_33 : FO RX2 33 2 6 := ⟨RX2, TX2, 13, rfl, inW2, by decide, in_wl (List.mem_append_right _ (List.mem_of_getElem? (i := 181) (by decide +kernel))) rfl⟩
theorem fp_2_6 : FP 2 6 .int := ⟨RX2, TX2, 13, tyX2, rfl, tyX2_ok, nmX2, rfl, by decide +kernel⟩
theorem fo_X2_36 : FO RX2 36 2 7 := ⟨RX2, TX2, 13, rfl, inW2, by decide, in_wl (List.mem_append_right _ (List.mem_of_getElem? (i := 183) (by decide +kernel))) rfl⟩
theorem fp_2_7 : FP 2 7 .int := ⟨RX2, TX2, 13, tyX2, rfl, tyX2_ok, nmX2, rfl, by decide +kernel⟩
theorem fo_X2_39 : FO RX2 39 2 10 := ⟨RX2, TX2, 13, rfl, inW2, by decide, in_wl (List.mem_append_right _ (List.mem_of_getElem? (i := 189) (by decide +kernel))) rfl⟩
theorem fp_2_10 : FP 2 10 .int := ⟨RX2, TX2, 13, tyX2, rfl, tyX2_ok, nmX2, rfl, by decide +kernel⟩
theorem fo_X2_42 : FO RX2 42 2 11 := ⟨RX2, TX2, 13, rfl, inW2, by decide, in_wl (List.mem_append_right _ (List.mem_of_getElem? (i := 191) (by decide +kernel))) rfl⟩
theorem fp_2_11 : FP 2 11 .int := ⟨RX2, TX2, 13, tyX2, rfl, tyX2_ok, nmX2, rfl, by decide +kernel⟩
theorem fo_X2_45 : FO RX2 45 2 12 := ⟨RX2, TX2, 13, rfl, inW2, by decide, in_wl (List.mem_append_right _ (List.mem_of_getElem? (i := 192) (by decide +kernel))) rfl⟩
theorem fp_2_12 : FP 2 12 .int := ⟨RX2, TX2, 13, tyX2, rfl, tyX2_ok, nmX2, rfl, by decide +kernel⟩
theorem ci_X2_takeWord : CIx yX2_takeWord cX2_takeWord 5 none 1 := ⟨in_wl (List.mem_append_right _ (List.mem_of_getElem? (i := 537) (by decide +kernel))) rfl, in_wl (List.mem_append_right _ (List.mem_of_getElem? (i := 6) (by decide +kernel))) rfl, by decide +kernel⟩
theorem ml_X2_50 : Cond.methodLink RX2 50 yX2_takeWord ∈ wl := in_wl (List.mem_append_right _ (List.mem_of_getElem? (i := 534) (by decide +kernel))) rfl
theorem mi_X2_takeWord : Cond.instanceMethod yX2_takeWord ∈ wl ∧ Cond.selects yX2_takeWord.cls yX2_takeWord yX2_takeWord ∈ wl := ⟨in_wl (List.mem_append_right _ (List.mem_of_getElem? (i := 536) (by decide +kernel))) rfl, in_wl (List.mem_of_getElem? (i := 3) (by decide +kernel)) rfl⟩
theorem ci_X2_takeNumber : CIx yX2_takeNumber cX2_takeNumber 5 (some .int) 2 := ⟨in_wl (List.mem_append_right _ (List.mem_of_getElem? (i := 599) (by decide +kernel))) rfl, in_wl (List.mem_append_right _ (List.mem_of_getElem? (i := 6) (by decide +kernel))) rfl, by decide +kernel⟩
theorem ml_X2_54 : Cond.methodLink RX2 54 yX2_takeNumber ∈ wl := in_wl (List.mem_append_right _ (List.mem_of_getElem? (i := 596) (by decide +kernel))) rfl
theorem mi_X2_takeNumber : Cond.instanceMethod yX2_takeNumber ∈ wl ∧ Cond.selects yX2_takeNumber.cls yX2_takeNumber yX2_takeNumber ∈ wl := ⟨in_wl (List.mem_append_right _ (List.mem_of_getElem? (i := 598) (by decide +kernel))) rfl, in_wl (List.mem_of_getElem? (i := 6) (by decide +kernel)) rfl⟩
theorem fo_X2_58 : FO RX2 58 2 8 := ⟨RX2, TX2, 13, rfl, inW2, by decide, in_wl (List.mem_append_right _ (List.mem_of_getElem? (i := 185) (by decide +kernel))) rfl⟩
theorem fp_2_8 : FP 2 8 .int := ⟨RX2, TX2, 13, tyX2, rfl, tyX2_ok, nmX2, rfl, by decide +kernel⟩
theorem fo_X2_62 : FO RX2 62 2 9 := ⟨RX2, TX2, 13, rfl, inW2, by decide, in_wl (List.mem_append_right _ (List.mem_of_getElem? (i := 187) (by decide +kernel))) rfl⟩
theorem fp_2_9 : FP 2 9 .int := ⟨RX2, TX2, 13, tyX2, rfl, tyX2_ok, nmX2, rfl, by decide +kernel⟩
theorem kb_58 : (Int8.ofInt 58).toInt32 = 58 := by decide
theorem ci_X2_takeSign : CIx yX2_takeSign cX2_takeSign 2 none 1 := ⟨in_wl (List.mem_append_right _ (List.mem_of_getElem? (i := 609) (by decide +kernel))) rfl, in_wl (List.mem_append_right _ (List.mem_of_getElem? (i := 6) (by decide +kernel))) rfl, by decide +kernel⟩
theorem ml_X2_64 : Cond.methodLink RX2 64 yX2_takeSign ∈ wl := in_wl (List.mem_append_right _ (List.mem_of_getElem? (i := 606) (by decide +kernel))) rfl
theorem mi_X2_takeSign : Cond.instanceMethod yX2_takeSign ∈ wl ∧ Cond.selects yX2_takeSign.cls yX2_takeSign yX2_takeSign ∈ wl := ⟨in_wl (List.mem_append_right _ (List.mem_of_getElem? (i := 608) (by decide +kernel))) rfl, in_wl (List.mem_of_getElem? (i := 7) (by decide +kernel)) rfl⟩
theorem ci_X2_takePlace : CIx yX2_takePlace cX2_takePlace 4 none 1 := ⟨in_wl (List.mem_append_right _ (List.mem_of_getElem? (i := 613) (by decide +kernel))) rfl, in_wl (List.mem_append_right _ (List.mem_of_getElem? (i := 6) (by decide +kernel))) rfl, by decide +kernel⟩
theorem ml_X2_68 : Cond.methodLink RX2 68 yX2_takePlace ∈ wl := in_wl (List.mem_append_right _ (List.mem_of_getElem? (i := 610) (by decide +kernel))) rfl
theorem mi_X2_takePlace : Cond.instanceMethod yX2_takePlace ∈ wl ∧ Cond.selects yX2_takePlace.cls yX2_takePlace yX2_takePlace ∈ wl := ⟨in_wl (List.mem_append_right _ (List.mem_of_getElem? (i := 612) (by decide +kernel))) rfl, in_wl (List.mem_of_getElem? (i := 8) (by decide +kernel)) rfl⟩
theorem ci_X2_takeComma : CIx yX2_takeComma cX2_takeComma 1 (some .boolean) 0 := ⟨in_wl (List.mem_append_right _ (List.mem_of_getElem? (i := 629) (by decide +kernel))) rfl, in_wl (List.mem_append_right _ (List.mem_of_getElem? (i := 6) (by decide +kernel))) rfl, by decide +kernel⟩
theorem ml_X2_71 : Cond.methodLink RX2 71 yX2_takeComma ∈ wl := in_wl (List.mem_append_right _ (List.mem_of_getElem? (i := 626) (by decide +kernel))) rfl
theorem mi_X2_takeComma : Cond.instanceMethod yX2_takeComma ∈ wl ∧ Cond.selects yX2_takeComma.cls yX2_takeComma yX2_takeComma ∈ wl := ⟨in_wl (List.mem_append_right _ (List.mem_of_getElem? (i := 628) (by decide +kernel))) rfl, in_wl (List.mem_of_getElem? (i := 11) (by decide +kernel)) rfl⟩
theorem ci_X2_skipBlanks : CIx yX2_skipBlanks cX2_skipBlanks 1 none 0 := ⟨in_wl (List.mem_append_right _ (List.mem_of_getElem? (i := 541) (by decide +kernel))) rfl, in_wl (List.mem_append_right _ (List.mem_of_getElem? (i := 6) (by decide +kernel))) rfl, by decide +kernel⟩
theorem ml_X2_81 : Cond.methodLink RX2 81 yX2_skipBlanks ∈ wl := in_wl (List.mem_append_right _ (List.mem_of_getElem? (i := 538) (by decide +kernel))) rfl
theorem mi_X2_skipBlanks : Cond.instanceMethod yX2_skipBlanks ∈ wl ∧ Cond.selects yX2_skipBlanks.cls yX2_skipBlanks yX2_skipBlanks ∈ wl := ⟨in_wl (List.mem_append_right _ (List.mem_of_getElem? (i := 540) (by decide +kernel))) rfl, in_wl (List.mem_of_getElem? (i := 4) (by decide +kernel)) rfl⟩
theorem fo_X2_21 : FO RX2 21 2 0 := ⟨RX2, TX2, 13, rfl, inW2, by decide, in_wl (List.mem_append_right _ (List.mem_of_getElem? (i := 172) (by decide +kernel))) rfl⟩
theorem fo_X2_75 : FO RX2 75 8 1 := ⟨RX8, TX8, 2, rfl, inW8, by decide, in_wl (List.mem_append_right _ (List.mem_of_getElem? (i := 36) (by decide +kernel))) rfl⟩
theorem kb_44 : (Int8.ofInt 44).toInt32 = 44 := by decide
theorem ml_X2_78 : Cond.methodLink RX2 78 yX8_at ∈ wl := in_wl (List.mem_append_right _ (List.mem_of_getElem? (i := 542) (by decide +kernel))) rfl
theorem kb_32 : (Int8.ofInt 32).toInt32 = 32 := by decide
theorem ci_X2_fail : CIx yX2_fail cX2_fail 3 none 2 := ⟨in_wl (List.mem_append_right _ (List.mem_of_getElem? (i := 595) (by decide +kernel))) rfl, in_wl (List.mem_append_right _ (List.mem_of_getElem? (i := 6) (by decide +kernel))) rfl, by decide +kernel⟩
theorem ml_X2_84 : Cond.methodLink RX2 84 yX2_fail ∈ wl := in_wl (List.mem_append_right _ (List.mem_of_getElem? (i := 592) (by decide +kernel))) rfl
theorem mi_X2_fail : Cond.instanceMethod yX2_fail ∈ wl ∧ Cond.selects yX2_fail.cls yX2_fail yX2_fail ∈ wl := ⟨in_wl (List.mem_append_right _ (List.mem_of_getElem? (i := 594) (by decide +kernel))) rfl, in_wl (List.mem_of_getElem? (i := 5) (by decide +kernel)) rfl⟩
theorem ci_X8_isFigure : CIx yX8_isFigure cX8_isFigure 2 (some .boolean) 1 := ⟨in_wl (List.mem_append_right _ (List.mem_of_getElem? (i := 603) (by decide +kernel))) rfl, in_wl (List.mem_append_right _ (List.mem_of_getElem? (i := 2) (by decide +kernel))) rfl, by decide +kernel⟩
theorem ml_X2_101 : Cond.methodLink RX2 101 yX8_isFigure ∈ wl := in_wl (List.mem_append_right _ (List.mem_of_getElem? (i := 600) (by decide +kernel))) rfl
theorem mi_X8_isFigure : Cond.instanceMethod yX8_isFigure ∈ wl ∧ Cond.selects yX8_isFigure.cls yX8_isFigure yX8_isFigure ∈ wl := ⟨in_wl (List.mem_append_right _ (List.mem_of_getElem? (i := 601) (by decide +kernel))) rfl, in_wl (List.mem_append_right _ (List.mem_of_getElem? (i := 602) (by decide +kernel))) rfl⟩
theorem kc_3 : Int32.ofInt 3 = 3 := by decide
theorem kb_48 : (Int8.ofInt 48).toInt32 = 48 := by decide
theorem ml_X2_105 : (RX2, 105, yX9_within, "UnderBars") ∈ nestL := by decide +kernel
theorem kb_57 : (Int8.ofInt 57).toInt32 = 57 := by decide
theorem fo_X2_9 : FO RX2 9 2 2 := ⟨RX2, TX2, 13, rfl, inW2, by decide, in_wl (List.mem_append_right _ (List.mem_of_getElem? (i := 174) (by decide +kernel))) rfl⟩
theorem sh_25 : shp[25]? = some (.inr (4, 0)) := rfl
theorem ml_X2_111 : Cond.methodLink RX2 111 yX8_isLetter ∈ wl := in_wl (List.mem_append_right _ (List.mem_of_getElem? (i := 615) (by decide +kernel))) rfl
theorem kb_91 : (Int8.ofInt 91).toInt32 = 91 := by decide
theorem ci_X2_takeBar : CIx yX2_takeBar cX2_takeBar 2 none 1 := ⟨in_wl (List.mem_append_right _ (List.mem_of_getElem? (i := 625) (by decide +kernel))) rfl, in_wl (List.mem_append_right _ (List.mem_of_getElem? (i := 6) (by decide +kernel))) rfl, by decide +kernel⟩
theorem ml_X2_117 : Cond.methodLink RX2 117 yX2_takeBar ∈ wl := in_wl (List.mem_append_right _ (List.mem_of_getElem? (i := 622) (by decide +kernel))) rfl
theorem mi_X2_takeBar : Cond.instanceMethod yX2_takeBar ∈ wl ∧ Cond.selects yX2_takeBar.cls yX2_takeBar yX2_takeBar ∈ wl := ⟨in_wl (List.mem_append_right _ (List.mem_of_getElem? (i := 624) (by decide +kernel))) rfl, in_wl (List.mem_of_getElem? (i := 10) (by decide +kernel)) rfl⟩
theorem ci_X2_takeShown : CIx yX2_takeShown cX2_takeShown 4 none 1 := ⟨in_wl (List.mem_append_right _ (List.mem_of_getElem? (i := 619) (by decide +kernel))) rfl, in_wl (List.mem_append_right _ (List.mem_of_getElem? (i := 6) (by decide +kernel))) rfl, by decide +kernel⟩
theorem ml_X2_114 : Cond.methodLink RX2 114 yX2_takeShown ∈ wl := in_wl (List.mem_append_right _ (List.mem_of_getElem? (i := 616) (by decide +kernel))) rfl
theorem mi_X2_takeShown : Cond.instanceMethod yX2_takeShown ∈ wl ∧ Cond.selects yX2_takeShown.cls yX2_takeShown yX2_takeShown ∈ wl := ⟨in_wl (List.mem_append_right _ (List.mem_of_getElem? (i := 618) (by decide +kernel))) rfl, in_wl (List.mem_of_getElem? (i := 9) (by decide +kernel)) rfl⟩
theorem fo_X2_15 : FO RX2 15 2 3 := ⟨RX2, TX2, 13, rfl, inW2, by decide, in_wl (List.mem_append_right _ (List.mem_of_getElem? (i := 176) (by decide +kernel))) rfl⟩
theorem sh_26 : shp[26]? = some (.inr (4, 0)) := rfl
theorem fo_X2_18 : FO RX2 18 2 4 := ⟨RX2, TX2, 13, rfl, inW2, by decide, in_wl (List.mem_append_right _ (List.mem_of_getElem? (i := 178) (by decide +kernel))) rfl⟩
theorem ks_200 : (Int16.ofInt 200).toInt32 = 200 := by decide
theorem sh_27 : shp[27]? = some (.inr (4, 0)) := rfl
theorem kb_93 : (Int8.ofInt 93).toInt32 = 93 := by decide
theorem kc_5 : Int32.ofInt 5 = 5 := by decide
theorem ml_X2_88 : Cond.methodLink RX2 88 yX8_endOfWord ∈ wl := in_wl (List.mem_append_right _ (List.mem_of_getElem? (i := 543) (by decide +kernel))) rfl
theorem fo_X2_25 : FO RX2 25 2 1 := ⟨RX2, TX2, 13, rfl, inW2, by decide, in_wl (List.mem_append_right _ (List.mem_of_getElem? (i := 173) (by decide +kernel))) rfl⟩
theorem ci_X1_find : CIx yX1_find cX1_find 5 (some .int) 3 := ⟨in_wl (List.mem_append_right _ (List.mem_of_getElem? (i := 455) (by decide +kernel))) rfl, in_wl (List.mem_append_right _ (List.mem_of_getElem? (i := 3) (by decide +kernel))) rfl, by decide +kernel⟩
theorem ml_X2_120 : Cond.methodLink RX2 120 yX1_find ∈ wl := in_wl (List.mem_append_right _ (List.mem_of_getElem? (i := 620) (by decide +kernel))) rfl
theorem mi_X1_find : Cond.instanceMethod yX1_find ∈ wl ∧ Cond.selects yX1_find.cls yX1_find yX1_find ∈ wl := ⟨in_wl (List.mem_append_right _ (List.mem_of_getElem? (i := 453) (by decide +kernel))) rfl, in_wl (List.mem_append_right _ (List.mem_of_getElem? (i := 454) (by decide +kernel))) rfl⟩
theorem ml_X2_126 : (RX2, 126, yX9_has, "UnderBars") ∈ nestL := by decide +kernel
theorem ci_J0_length_8abf5 : CIx yJ0_length_8abf5 cJ0_length_8abf5 1 (some .int) 0 := ⟨in_wl (List.mem_append_right _ (List.mem_of_getElem? (i := 547) (by decide +kernel))) rfl, in_wl (List.mem_append_right _ (List.mem_of_getElem? (i := 14) (by decide +kernel))) rfl, by decide +kernel⟩
theorem ml_X2_91 : Cond.methodLink RX2 91 yJ0_length_8abf5 ∈ wl := in_wl (List.mem_append_right _ (List.mem_of_getElem? (i := 544) (by decide +kernel))) rfl
theorem mi_J0_length_8abf5 : Cond.instanceMethod yJ0_length_8abf5 ∈ wl ∧ Cond.selects yJ0_length_8abf5.cls yJ0_length_8abf5 yJ0_length_8abf5 ∈ wl := ⟨in_wl (List.mem_append_right _ (List.mem_of_getElem? (i := 545) (by decide +kernel))) rfl, in_wl (List.mem_append_right _ (List.mem_of_getElem? (i := 546) (by decide +kernel))) rfl⟩
theorem ci_J0_charAt_5068e : CIx yJ0_charAt_5068e cJ0_charAt_5068e 2 (some .char) 1 := ⟨in_wl (List.mem_append_right _ (List.mem_of_getElem? (i := 557) (by decide +kernel))) rfl, in_wl (List.mem_append_right _ (List.mem_of_getElem? (i := 14) (by decide +kernel))) rfl, by decide +kernel⟩
theorem ml_X2_97 : Cond.methodLink RX2 97 yJ0_charAt_5068e ∈ wl := in_wl (List.mem_append_right _ (List.mem_of_getElem? (i := 554) (by decide +kernel))) rfl
theorem mi_J0_charAt_5068e : Cond.instanceMethod yJ0_charAt_5068e ∈ wl ∧ Cond.selects yJ0_charAt_5068e.cls yJ0_charAt_5068e yJ0_charAt_5068e ∈ wl := ⟨in_wl (List.mem_append_right _ (List.mem_of_getElem? (i := 555) (by decide +kernel))) rfl, in_wl (List.mem_append_right _ (List.mem_of_getElem? (i := 556) (by decide +kernel))) rfl⟩
theorem fo_X3_52 : FO RX3 52 3 13 := ⟨RX3, TX3, 15, rfl, inW3, by decide, in_wl (List.mem_append_right _ (List.mem_of_getElem? (i := 130) (by decide +kernel))) rfl⟩
theorem ml_X3_58 : (RX3, 58, yX9_within, "UnderBars") ∈ nestL := by decide +kernel
theorem fo_X3_42 : FO RX3 42 3 10 := ⟨RX3, TX3, 15, rfl, inW3, by decide, in_wl (List.mem_append_right _ (List.mem_of_getElem? (i := 123) (by decide +kernel))) rfl⟩
theorem fo_X3_9 : FO RX3 9 3 0 := ⟨RX3, TX3, 15, rfl, inW3, by decide, in_wl (List.mem_append_right _ (List.mem_of_getElem? (i := 98) (by decide +kernel))) rfl⟩
theorem fo_X3_62 : FO RX3 62 2 8 := ⟨RX2, TX2, 13, rfl, inW2, by decide, in_wl (List.mem_append_right _ (List.mem_of_getElem? (i := 186) (by decide +kernel))) rfl⟩
theorem fo_X3_15 : FO RX3 15 3 1 := ⟨RX3, TX3, 15, rfl, inW3, by decide, in_wl (List.mem_append_right _ (List.mem_of_getElem? (i := 100) (by decide +kernel))) rfl⟩
theorem fo_X3_67 : FO RX3 67 2 9 := ⟨RX2, TX2, 13, rfl, inW2, by decide, in_wl (List.mem_append_right _ (List.mem_of_getElem? (i := 188) (by decide +kernel))) rfl⟩
theorem fo_X3_70 : FO RX3 70 2 10 := ⟨RX2, TX2, 13, rfl, inW2, by decide, in_wl (List.mem_append_right _ (List.mem_of_getElem? (i := 190) (by decide +kernel))) rfl⟩
theorem fp_3_10 : FP 3 10 .int := ⟨RX3, TX3, 15, tyX3, rfl, tyX3_ok, nmX3, rfl, by decide +kernel⟩
theorem fo_X3_46 : FO RX3 46 3 11 := ⟨RX3, TX3, 15, rfl, inW3, by decide, in_wl (List.mem_append_right _ (List.mem_of_getElem? (i := 125) (by decide +kernel))) rfl⟩
theorem fo_X3_71 : FO RX3 71 2 2 := ⟨RX2, TX2, 13, rfl, inW2, by decide, in_wl (List.mem_append_right _ (List.mem_of_getElem? (i := 175) (by decide +kernel))) rfl⟩
theorem fo_X3_74 : FO RX3 74 2 3 := ⟨RX2, TX2, 13, rfl, inW2, by decide, in_wl (List.mem_append_right _ (List.mem_of_getElem? (i := 177) (by decide +kernel))) rfl⟩
theorem fo_X3_77 : FO RX3 77 2 4 := ⟨RX2, TX2, 13, rfl, inW2, by decide, in_wl (List.mem_append_right _ (List.mem_of_getElem? (i := 179) (by decide +kernel))) rfl⟩
theorem ci_X3_addPlace : CIx yX3_addPlace cX3_addPlace 5 none 3 := ⟨in_wl (List.mem_append_right _ (List.mem_of_getElem? (i := 637) (by decide +kernel))) rfl, in_wl (List.mem_append_right _ (List.mem_of_getElem? (i := 5) (by decide +kernel))) rfl, by decide +kernel⟩
theorem ml_X3_80 : Cond.methodLink RX3 80 yX3_addPlace ∈ wl := in_wl (List.mem_append_right _ (List.mem_of_getElem? (i := 634) (by decide +kernel))) rfl
theorem mi_X3_addPlace : Cond.instanceMethod yX3_addPlace ∈ wl ∧ Cond.selects yX3_addPlace.cls yX3_addPlace yX3_addPlace ∈ wl := ⟨in_wl (List.mem_append_right _ (List.mem_of_getElem? (i := 636) (by decide +kernel))) rfl, in_wl (List.mem_of_getElem? (i := 12) (by decide +kernel)) rfl⟩
theorem fp_3_11 : FP 3 11 .int := ⟨RX3, TX3, 15, tyX3, rfl, tyX3_ok, nmX3, rfl, by decide +kernel⟩
theorem fo_X3_18 : FO RX3 18 3 2 := ⟨RX3, TX3, 15, rfl, inW3, by decide, in_wl (List.mem_append_right _ (List.mem_of_getElem? (i := 102) (by decide +kernel))) rfl⟩
theorem fo_X3_21 : FO RX3 21 3 3 := ⟨RX3, TX3, 15, rfl, inW3, by decide, in_wl (List.mem_append_right _ (List.mem_of_getElem? (i := 105) (by decide +kernel))) rfl⟩
theorem fo_X3_24 : FO RX3 24 3 4 := ⟨RX3, TX3, 15, rfl, inW3, by decide, in_wl (List.mem_append_right _ (List.mem_of_getElem? (i := 108) (by decide +kernel))) rfl⟩
theorem fo_X3_33 : FO RX3 33 3 7 := ⟨RX3, TX3, 15, rfl, inW3, by decide, in_wl (List.mem_append_right _ (List.mem_of_getElem? (i := 115) (by decide +kernel))) rfl⟩
theorem fo_X3_30 : FO RX3 30 3 6 := ⟨RX3, TX3, 15, rfl, inW3, by decide, in_wl (List.mem_append_right _ (List.mem_of_getElem? (i := 112) (by decide +kernel))) rfl⟩
theorem fo_X3_36 : FO RX3 36 3 8 := ⟨RX3, TX3, 15, rfl, inW3, by decide, in_wl (List.mem_append_right _ (List.mem_of_getElem? (i := 117) (by decide +kernel))) rfl⟩
theorem fp_3_13 : FP 3 13 .int := ⟨RX3, TX3, 15, tyX3, rfl, tyX3_ok, nmX3, rfl, by decide +kernel⟩
theorem fo_X3_49 : FO RX3 49 3 12 := ⟨RX3, TX3, 15, rfl, inW3, by decide, in_wl (List.mem_append_right _ (List.mem_of_getElem? (i := 128) (by decide +kernel))) rfl⟩
theorem fp_3_12 : FP 3 12 .int := ⟨RX3, TX3, 15, tyX3, rfl, tyX3_ok, nmX3, rfl, by decide +kernel⟩
theorem fo_X3_39 : FO RX3 39 3 9 := ⟨RX3, TX3, 15, rfl, inW3, by decide, in_wl (List.mem_append_right _ (List.mem_of_getElem? (i := 120) (by decide +kernel))) rfl⟩
theorem fo_X3_55 : FO RX3 55 3 14 := ⟨RX3, TX3, 15, rfl, inW3, by decide, in_wl (List.mem_append_right _ (List.mem_of_getElem? (i := 133) (by decide +kernel))) rfl⟩
theorem fp_3_14 : FP 3 14 .int := ⟨RX3, TX3, 15, tyX3, rfl, tyX3_ok, nmX3, rfl, by decide +kernel⟩
theorem fo_X4_15 : FO RX4 15 4 1 := ⟨RX4, TX4, 2, rfl, inW4, by decide, in_wl (List.mem_append_right _ (List.mem_of_getElem? (i := 229) (by decide +kernel))) rfl⟩
theorem sh_28 : shp[28]? = some (.inl (4, [31, 32])) := rfl
theorem sh_30 : shp[30]? = some (.inr (40, 0)) := rfl
theorem ml_X4_24 : (RX4, 24, yX9_allBelow, "UnderBars") ∈ nestL := by decide +kernel
theorem ml_X4_28 : (RX4, 28, yX9_has, "UnderBars") ∈ nestL := by decide +kernel
theorem ci_X4_leftBy : CIx yX4_leftBy cX4_leftBy 4 (some .int) 2 := ⟨in_wl (List.mem_append_right _ (List.mem_of_getElem? (i := 740) (by decide +kernel))) rfl, in_wl (List.mem_append_right _ (List.mem_of_getElem? (i := 7) (by decide +kernel))) rfl, by decide +kernel⟩
theorem ml_X4_32 : Cond.methodLink RX4 32 yX4_leftBy ∈ wl := in_wl (List.mem_append_right _ (List.mem_of_getElem? (i := 737) (by decide +kernel))) rfl
theorem mi_X4_leftBy : Cond.instanceMethod yX4_leftBy ∈ wl ∧ Cond.selects yX4_leftBy.cls yX4_leftBy yX4_leftBy ∈ wl := ⟨in_wl (List.mem_append_right _ (List.mem_of_getElem? (i := 739) (by decide +kernel))) rfl, in_wl (List.mem_of_getElem? (i := 19) (by decide +kernel)) rfl⟩
theorem fo_X4_9 : FO RX4 9 4 0 := ⟨RX4, TX4, 2, rfl, inW4, by decide, in_wl (List.mem_append_right _ (List.mem_of_getElem? (i := 227) (by decide +kernel))) rfl⟩
theorem sh_29 : shp[29]? = some (.inr (4, 0)) := rfl
theorem fo_X5_12 : FO RX5 12 5 2 := ⟨RX5, TX5, 12, rfl, inW5, by decide, in_wl (List.mem_append_right _ (List.mem_of_getElem? (i := 331) (by decide +kernel))) rfl⟩
theorem sh_39 : shp[39]? = some (.inl (5, [5, 33, 42, 44, 45, 46, 47, 48, 49, 0, 0, 0])) := rfl
theorem ci_X7_clear : CIx yX7_clear cX7_clear 1 none 0 := ⟨in_wl (List.mem_append_right _ (List.mem_of_getElem? (i := 748) (by decide +kernel))) rfl, in_wl (List.mem_append_right _ (List.mem_of_getElem? (i := 11) (by decide +kernel))) rfl, by decide +kernel⟩
theorem ml_X5_46 : Cond.methodLink RX5 46 yX7_clear ∈ wl := in_wl (List.mem_append_right _ (List.mem_of_getElem? (i := 745) (by decide +kernel))) rfl
theorem mi_X7_clear : Cond.instanceMethod yX7_clear ∈ wl ∧ Cond.selects yX7_clear.cls yX7_clear yX7_clear ∈ wl := ⟨in_wl (List.mem_append_right _ (List.mem_of_getElem? (i := 746) (by decide +kernel))) rfl, in_wl (List.mem_append_right _ (List.mem_of_getElem? (i := 747) (by decide +kernel))) rfl⟩
theorem sh_40 : shp[40]? = some (.inl (7, [43, 0, 0, 1, 1, 0, 0])) := rfl
theorem fo_X5_49 : FO RX5 49 5 9 := ⟨RX5, TX5, 12, rfl, inW5, by decide, in_wl (List.mem_append_right _ (List.mem_of_getElem? (i := 340) (by decide +kernel))) rfl⟩
theorem fp_5_9 : FP 5 9 .int := ⟨RX5, TX5, 12, tyX5, rfl, tyX5_ok, nmX5, rfl, by decide +kernel⟩
theorem fo_X5_53 : FO RX5 53 5 10 := ⟨RX5, TX5, 12, rfl, inW5, by decide, in_wl (List.mem_append_right _ (List.mem_of_getElem? (i := 341) (by decide +kernel))) rfl⟩
theorem fp_5_10 : FP 5 10 .int := ⟨RX5, TX5, 12, tyX5, rfl, tyX5_ok, nmX5, rfl, by decide +kernel⟩
theorem fo_X5_56 : FO RX5 56 5 11 := ⟨RX5, TX5, 12, rfl, inW5, by decide, in_wl (List.mem_append_right _ (List.mem_of_getElem? (i := 342) (by decide +kernel))) rfl⟩
theorem fp_5_11 : FP 5 11 .boolean := ⟨RX5, TX5, 12, tyX5, rfl, tyX5_ok, nmX5, rfl, by decide +kernel⟩
theorem fo_X5_42 : FO RX5 42 5 1 := ⟨RX5, TX5, 12, rfl, inW5, by decide, in_wl (List.mem_append_right _ (List.mem_of_getElem? (i := 330) (by decide +kernel))) rfl⟩
theorem fo_X5_60 : FO RX5 60 6 3 := ⟨RX6, TX6, 4, rfl, inW6, by decide, in_wl (List.mem_append_right _ (List.mem_of_getElem? (i := 249) (by decide +kernel))) rfl⟩
theorem ci_X5_enter : CIx yX5_enter cX5_enter 5 none 1 := ⟨in_wl (List.mem_append_right _ (List.mem_of_getElem? (i := 758) (by decide +kernel))) rfl, in_wl (List.mem_append_right _ (List.mem_of_getElem? (i := 10) (by decide +kernel))) rfl, by decide +kernel⟩
theorem ml_X5_69 : Cond.methodLink RX5 69 yX5_enter ∈ wl := in_wl (List.mem_append_right _ (List.mem_of_getElem? (i := 755) (by decide +kernel))) rfl
theorem mi_X5_enter : Cond.instanceMethod yX5_enter ∈ wl ∧ Cond.selects yX5_enter.cls yX5_enter yX5_enter ∈ wl := ⟨in_wl (List.mem_append_right _ (List.mem_of_getElem? (i := 757) (by decide +kernel))) rfl, in_wl (List.mem_of_getElem? (i := 20) (by decide +kernel)) rfl⟩
theorem ci_X7_add : CIx yX7_add cX7_add 5 none 3 := ⟨in_wl (List.mem_append_right _ (List.mem_of_getElem? (i := 754) (by decide +kernel))) rfl, in_wl (List.mem_append_right _ (List.mem_of_getElem? (i := 11) (by decide +kernel))) rfl, by decide +kernel⟩
theorem ml_X5_65 : Cond.methodLink RX5 65 yX7_add ∈ wl := in_wl (List.mem_append_right _ (List.mem_of_getElem? (i := 751) (by decide +kernel))) rfl
theorem mi_X7_add : Cond.instanceMethod yX7_add ∈ wl ∧ Cond.selects yX7_add.cls yX7_add yX7_add ∈ wl := ⟨in_wl (List.mem_append_right _ (List.mem_of_getElem? (i := 752) (by decide +kernel))) rfl, in_wl (List.mem_append_right _ (List.mem_of_getElem? (i := 753) (by decide +kernel))) rfl⟩
theorem ki_X5_73 : Cond.constant RX5 73 100000 ∈ wl := in_wl (List.mem_append_right _ (List.mem_of_getElem? (i := 765) (by decide +kernel))) rfl
theorem fo_X5_74 : FO RX5 74 7 1 := ⟨RX7, TX7, 7, rfl, inW7, by decide, in_wl (List.mem_append_right _ (List.mem_of_getElem? (i := 301) (by decide +kernel))) rfl⟩
theorem ci_X5_tryOn : CIx yX5_tryOn cX5_tryOn 4 (some .int) 1 := ⟨in_wl (List.mem_append_right _ (List.mem_of_getElem? (i := 769) (by decide +kernel))) rfl, in_wl (List.mem_append_right _ (List.mem_of_getElem? (i := 10) (by decide +kernel))) rfl, by decide +kernel⟩
theorem ml_X5_77 : Cond.methodLink RX5 77 yX5_tryOn ∈ wl := in_wl (List.mem_append_right _ (List.mem_of_getElem? (i := 766) (by decide +kernel))) rfl
theorem mi_X5_tryOn : Cond.instanceMethod yX5_tryOn ∈ wl ∧ Cond.selects yX5_tryOn.cls yX5_tryOn yX5_tryOn ∈ wl := ⟨in_wl (List.mem_append_right _ (List.mem_of_getElem? (i := 768) (by decide +kernel))) rfl, in_wl (List.mem_of_getElem? (i := 21) (by decide +kernel)) rfl⟩
theorem fo_X5_22 : FO RX5 22 5 4 := ⟨RX5, TX5, 12, rfl, inW5, by decide, in_wl (List.mem_append_right _ (List.mem_of_getElem? (i := 335) (by decide +kernel))) rfl⟩
theorem sh_43 : shp[43]? = some (.inr (18, 0)) := rfl
theorem fo_X5_25 : FO RX5 25 5 5 := ⟨RX5, TX5, 12, rfl, inW5, by decide, in_wl (List.mem_append_right _ (List.mem_of_getElem? (i := 336) (by decide +kernel))) rfl⟩
theorem ci_X6_isBesideTheOneAhead : CIx yX6_isBesideTheOneAhead cX6_isBesideTheOneAhead 2 (some .boolean) 1 := ⟨in_wl (List.mem_append_right _ (List.mem_of_getElem? (i := 762) (by decide +kernel))) rfl, in_wl (List.mem_append_right _ (List.mem_of_getElem? (i := 8) (by decide +kernel))) rfl, by decide +kernel⟩
theorem ml_X5_101 : Cond.methodLink RX5 101 yX6_isBesideTheOneAhead ∈ wl := in_wl (List.mem_append_right _ (List.mem_of_getElem? (i := 759) (by decide +kernel))) rfl
theorem mi_X6_isBesideTheOneAhead : Cond.instanceMethod yX6_isBesideTheOneAhead ∈ wl ∧ Cond.selects yX6_isBesideTheOneAhead.cls yX6_isBesideTheOneAhead yX6_isBesideTheOneAhead ∈ wl := ⟨in_wl (List.mem_append_right _ (List.mem_of_getElem? (i := 760) (by decide +kernel))) rfl, in_wl (List.mem_append_right _ (List.mem_of_getElem? (i := 761) (by decide +kernel))) rfl⟩
theorem sh_44 : shp[44]? = some (.inr (18, 0)) := rfl
theorem fo_X5_38 : FO RX5 38 5 0 := ⟨RX5, TX5, 12, rfl, inW5, by decide, in_wl (List.mem_append_right _ (List.mem_of_getElem? (i := 329) (by decide +kernel))) rfl⟩
theorem fo_X5_18 : FO RX5 18 5 3 := ⟨RX5, TX5, 12, rfl, inW5, by decide, in_wl (List.mem_append_right _ (List.mem_of_getElem? (i := 333) (by decide +kernel))) rfl⟩
theorem sh_42 : shp[42]? = some (.inr (18, 0)) := rfl
theorem ml_X5_105 : Cond.methodLink RX5 105 yX1_shutOutBy ∈ wl := in_wl (List.mem_append_right _ (List.mem_of_getElem? (i := 763) (by decide +kernel))) rfl
theorem fo_X5_108 : FO RX5 108 6 1 := ⟨RX6, TX6, 4, rfl, inW6, by decide, in_wl (List.mem_append_right _ (List.mem_of_getElem? (i := 243) (by decide +kernel))) rfl⟩
theorem fo_X5_111 : FO RX5 111 6 2 := ⟨RX6, TX6, 4, rfl, inW6, by decide, in_wl (List.mem_append_right _ (List.mem_of_getElem? (i := 246) (by decide +kernel))) rfl⟩
theorem fo_X5_28 : FO RX5 28 5 6 := ⟨RX5, TX5, 12, rfl, inW5, by decide, in_wl (List.mem_append_right _ (List.mem_of_getElem? (i := 337) (by decide +kernel))) rfl⟩
theorem sh_45 : shp[45]? = some (.inr (18, 0)) := rfl
theorem ml_X5_84 : (RX5, 84, yX9_has, "UnderBars") ∈ nestL := by decide +kernel
theorem fo_X5_81 : FO RX5 81 1 9 := ⟨RX1, TX1, 10, rfl, inW1, by decide, in_wl (List.mem_append_right _ (List.mem_of_getElem? (i := 69) (by decide +kernel))) rfl⟩
theorem ml_X5_88 : Cond.methodLink RX5 88 yJ9_min_7cf53 ∈ wl := in_wl (List.mem_append_right _ (List.mem_of_getElem? (i := 770) (by decide +kernel))) rfl
theorem ks_3000 : (Int16.ofInt 3000).toInt32 = 3000 := by decide
theorem ci_X5_give : CIx yX5_give cX5_give 3 none 2 := ⟨in_wl (List.mem_append_right _ (List.mem_of_getElem? (i := 776) (by decide +kernel))) rfl, in_wl (List.mem_append_right _ (List.mem_of_getElem? (i := 10) (by decide +kernel))) rfl, by decide +kernel⟩
theorem ml_X5_94 : Cond.methodLink RX5 94 yX5_give ∈ wl := in_wl (List.mem_append_right _ (List.mem_of_getElem? (i := 773) (by decide +kernel))) rfl
theorem mi_X5_give : Cond.instanceMethod yX5_give ∈ wl ∧ Cond.selects yX5_give.cls yX5_give yX5_give ∈ wl := ⟨in_wl (List.mem_append_right _ (List.mem_of_getElem? (i := 775) (by decide +kernel))) rfl, in_wl (List.mem_of_getElem? (i := 22) (by decide +kernel)) rfl⟩
theorem ci_X5_takeReading : CIx yX5_takeReading cX5_takeReading 4 none 1 := ⟨in_wl (List.mem_append_right _ (List.mem_of_getElem? (i := 780) (by decide +kernel))) rfl, in_wl (List.mem_append_right _ (List.mem_of_getElem? (i := 10) (by decide +kernel))) rfl, by decide +kernel⟩
theorem ml_X5_98 : Cond.methodLink RX5 98 yX5_takeReading ∈ wl := in_wl (List.mem_append_right _ (List.mem_of_getElem? (i := 777) (by decide +kernel))) rfl
theorem mi_X5_takeReading : Cond.instanceMethod yX5_takeReading ∈ wl ∧ Cond.selects yX5_takeReading.cls yX5_takeReading yX5_takeReading ∈ wl := ⟨in_wl (List.mem_append_right _ (List.mem_of_getElem? (i := 779) (by decide +kernel))) rfl, in_wl (List.mem_of_getElem? (i := 23) (by decide +kernel)) rfl⟩
theorem fo_X5_31 : FO RX5 31 5 7 := ⟨RX5, TX5, 12, rfl, inW5, by decide, in_wl (List.mem_append_right _ (List.mem_of_getElem? (i := 338) (by decide +kernel))) rfl⟩
theorem sh_46 : shp[46]? = some (.inr (18, 0)) := rfl
theorem fo_X5_34 : FO RX5 34 5 8 := ⟨RX5, TX5, 12, rfl, inW5, by decide, in_wl (List.mem_append_right _ (List.mem_of_getElem? (i := 339) (by decide +kernel))) rfl⟩
theorem fo_X5_114 : FO RX5 114 1 7 := ⟨RX1, TX1, 10, rfl, inW1, by decide, in_wl (List.mem_append_right _ (List.mem_of_getElem? (i := 65) (by decide +kernel))) rfl⟩
theorem sh_47 : shp[47]? = some (.inr (18, 1)) := rfl
theorem fo_X5_120 : FO RX5 120 7 5 := ⟨RX7, TX7, 7, rfl, inW7, by decide, in_wl (List.mem_append_right _ (List.mem_of_getElem? (i := 311) (by decide +kernel))) rfl⟩
theorem ml_X5_123 : (RX5, 123, yX9_within, "UnderBars") ∈ nestL := by decide +kernel
theorem fo_X5_127 : FO RX5 127 7 6 := ⟨RX7, TX7, 7, rfl, inW7, by decide, in_wl (List.mem_append_right _ (List.mem_of_getElem? (i := 313) (by decide +kernel))) rfl⟩
theorem fo_X5_117 : FO RX5 117 7 0 := ⟨RX7, TX7, 7, rfl, inW7, by decide, in_wl (List.mem_append_right _ (List.mem_of_getElem? (i := 299) (by decide +kernel))) rfl⟩
theorem sh_41 : shp[41]? = some (.inr (18, 0)) := rfl
theorem fo_X7_28 : FO RX7 28 7 1 := ⟨RX7, TX7, 7, rfl, inW7, by decide, in_wl (List.mem_append_right _ (List.mem_of_getElem? (i := 302) (by decide +kernel))) rfl⟩
theorem fp_7_1 : FP 7 1 .int := ⟨RX7, TX7, 7, tyX7, rfl, tyX7_ok, nmX7, rfl, by decide +kernel⟩
theorem fo_X7_35 : FO RX7 35 7 2 := ⟨RX7, TX7, 7, rfl, inW7, by decide, in_wl (List.mem_append_right _ (List.mem_of_getElem? (i := 304) (by decide +kernel))) rfl⟩
theorem fp_7_2 : FP 7 2 .int := ⟨RX7, TX7, 7, tyX7, rfl, tyX7_ok, nmX7, rfl, by decide +kernel⟩
theorem fo_X7_38 : FO RX7 38 7 3 := ⟨RX7, TX7, 7, rfl, inW7, by decide, in_wl (List.mem_append_right _ (List.mem_of_getElem? (i := 306) (by decide +kernel))) rfl⟩
theorem fp_7_3 : FP 7 3 .long := ⟨RX7, TX7, 7, tyX7, rfl, tyX7_ok, nmX7, rfl, by decide +kernel⟩
theorem fo_X7_42 : FO RX7 42 7 4 := ⟨RX7, TX7, 7, rfl, inW7, by decide, in_wl (List.mem_append_right _ (List.mem_of_getElem? (i := 308) (by decide +kernel))) rfl⟩
theorem fp_7_4 : FP 7 4 .long := ⟨RX7, TX7, 7, tyX7, rfl, tyX7_ok, nmX7, rfl, by decide +kernel⟩
theorem fo_X7_9 : FO RX7 9 7 0 := ⟨RX7, TX7, 7, rfl, inW7, by decide, in_wl (List.mem_append_right _ (List.mem_of_getElem? (i := 298) (by decide +kernel))) rfl⟩
theorem ml_X7_22 : Cond.methodLink RX7 22 yJ7_fill_53178 ∈ wl := in_wl (List.mem_append_right _ (List.mem_of_getElem? (i := 749) (by decide +kernel))) rfl
theorem ml_X7_31 : (RX7, 31, yX9_allBelow, "UnderBars") ∈ nestL := by decide +kernel
theorem fo_X7_15 : FO RX7 15 7 5 := ⟨RX7, TX7, 7, rfl, inW7, by decide, in_wl (List.mem_append_right _ (List.mem_of_getElem? (i := 310) (by decide +kernel))) rfl⟩
theorem fp_7_5 : FP 7 5 .int := ⟨RX7, TX7, 7, tyX7, rfl, tyX7_ok, nmX7, rfl, by decide +kernel⟩
theorem fo_X7_19 : FO RX7 19 7 6 := ⟨RX7, TX7, 7, rfl, inW7, by decide, in_wl (List.mem_append_right _ (List.mem_of_getElem? (i := 312) (by decide +kernel))) rfl⟩
theorem fp_7_6 : FP 7 6 .int := ⟨RX7, TX7, 7, tyX7, rfl, tyX7_ok, nmX7, rfl, by decide +kernel⟩
theorem ml_X7_45 : Cond.methodLink RX7 45 yJ6_bitCount_0f7a4 ∈ wl := in_wl (List.mem_append_right _ (List.mem_of_getElem? (i := 870) (by decide +kernel))) rfl
theorem kb_120 : (Int8.ofInt 120).toInt32 = 120 := by decide
theorem fp_8_1 : FP 8 1 .int := ⟨RX8, TX8, 2, tyX8, rfl, tyX8_ok, nmX8, rfl, by decide +kernel⟩
theorem ml_X9_81 : Cond.methodLink RX9 81 yX9_within ∈ wl := in_wl (List.mem_append_right _ (List.mem_of_getElem? (i := 408) (by decide +kernel))) rfl
theorem ks_m1002 : (Int16.ofInt (-1002)).toInt32 = (-1002) := by decide
theorem kb_25 : (Int8.ofInt 25).toInt32 = 25 := by decide
theorem kb_20 : (Int8.ofInt 20).toInt32 = 20 := by decide
theorem fo_X9_19 : FO RX9 19 9 1 := ⟨RX9, TX9, 11, rfl, inW9, by decide, in_wl (List.mem_append_right _ (List.mem_of_getElem? (i := 371) (by decide +kernel))) rfl⟩
theorem sh_0 : shp[0]? = some (.inl (9, [3, 5, 15, 26, 30, 33, 37, 41, 0, 0, 0])) := rfl
theorem ci_X1_widenLetter : CIx yX1_widenLetter cX1_widenLetter 6 (some .int) 3 := ⟨in_wl (List.mem_append_right _ (List.mem_of_getElem? (i := 414) (by decide +kernel))) rfl, in_wl (List.mem_append_right _ (List.mem_of_getElem? (i := 3) (by decide +kernel))) rfl, by decide +kernel⟩
theorem ml_X9_85 : Cond.methodLink RX9 85 yX1_widenLetter ∈ wl := in_wl (List.mem_append_right _ (List.mem_of_getElem? (i := 411) (by decide +kernel))) rfl
theorem mi_X1_widenLetter : Cond.instanceMethod yX1_widenLetter ∈ wl ∧ Cond.selects yX1_widenLetter.cls yX1_widenLetter yX1_widenLetter ∈ wl := ⟨in_wl (List.mem_append_right _ (List.mem_of_getElem? (i := 412) (by decide +kernel))) rfl, in_wl (List.mem_append_right _ (List.mem_of_getElem? (i := 413) (by decide +kernel))) rfl⟩
theorem fo_X9_12 : FO RX9 12 9 0 := ⟨RX9, TX9, 11, rfl, inW9, by decide, in_wl (List.mem_append_right _ (List.mem_of_getElem? (i := 370) (by decide +kernel))) rfl⟩
theorem fo_X9_89 : FO RX9 89 8 1 := ⟨RX8, TX8, 2, rfl, inW8, by decide, in_wl (List.mem_append_right _ (List.mem_of_getElem? (i := 35) (by decide +kernel))) rfl⟩
theorem ks_m1004 : (Int16.ofInt (-1004)).toInt32 = (-1004) := by decide
theorem ks_255 : (Int16.ofInt 255).toInt32 = 255 := by decide
theorem ci_X8_append : CIx yX8_append cX8_append 2 none 1 := ⟨in_wl (List.mem_append_right _ (List.mem_of_getElem? (i := 426) (by decide +kernel))) rfl, in_wl (List.mem_append_right _ (List.mem_of_getElem? (i := 2) (by decide +kernel))) rfl, by decide +kernel⟩
theorem ml_X9_92 : Cond.methodLink RX9 92 yX8_append ∈ wl := in_wl (List.mem_append_right _ (List.mem_of_getElem? (i := 423) (by decide +kernel))) rfl
theorem mi_X8_append : Cond.instanceMethod yX8_append ∈ wl ∧ Cond.selects yX8_append.cls yX8_append yX8_append ∈ wl := ⟨in_wl (List.mem_append_right _ (List.mem_of_getElem? (i := 424) (by decide +kernel))) rfl, in_wl (List.mem_append_right _ (List.mem_of_getElem? (i := 425) (by decide +kernel))) rfl⟩
theorem ci_X9_addName : CIx yX9_addName cX9_addName 1 (some .int) 0 := ⟨in_wl (List.mem_append_right _ (List.mem_of_getElem? (i := 434) (by decide +kernel))) rfl, in_wl (List.mem_append_right _ (List.mem_of_getElem? (i := 1) (by decide +kernel))) rfl, by decide +kernel⟩
theorem ml_X9_96 : Cond.methodLink RX9 96 yX9_addName ∈ wl := in_wl (List.mem_append_right _ (List.mem_of_getElem? (i := 431) (by decide +kernel))) rfl
theorem mi_X9_addName : Cond.instanceMethod yX9_addName ∈ wl ∧ Cond.selects yX9_addName.cls yX9_addName yX9_addName ∈ wl := ⟨in_wl (List.mem_append_right _ (List.mem_of_getElem? (i := 433) (by decide +kernel))) rfl, in_wl (List.mem_of_getElem? (i := 1) (by decide +kernel)) rfl⟩
theorem ml_X9_292 : Cond.methodLink RX9 292 yX8_isRowOfLetters ∈ wl := in_wl (List.mem_append_right _ (List.mem_of_getElem? (i := 435) (by decide +kernel))) rfl
theorem ml_X9_296 : Cond.methodLink RX9 296 yX1_find ∈ wl := in_wl (List.mem_append_right _ (List.mem_of_getElem? (i := 452) (by decide +kernel))) rfl
theorem fo_X9_132 : FO RX9 132 1 9 := ⟨RX1, TX1, 10, rfl, inW1, by decide, in_wl (List.mem_append_right _ (List.mem_of_getElem? (i := 70) (by decide +kernel))) rfl⟩
theorem ci_X1_add : CIx yX1_add cX1_add 4 none 1 := ⟨in_wl (List.mem_append_right _ (List.mem_of_getElem? (i := 464) (by decide +kernel))) rfl, in_wl (List.mem_append_right _ (List.mem_of_getElem? (i := 3) (by decide +kernel))) rfl, by decide +kernel⟩
theorem ml_X9_300 : Cond.methodLink RX9 300 yX1_add ∈ wl := in_wl (List.mem_append_right _ (List.mem_of_getElem? (i := 461) (by decide +kernel))) rfl
theorem mi_X1_add : Cond.instanceMethod yX1_add ∈ wl ∧ Cond.selects yX1_add.cls yX1_add yX1_add ∈ wl := ⟨in_wl (List.mem_append_right _ (List.mem_of_getElem? (i := 462) (by decide +kernel))) rfl, in_wl (List.mem_append_right _ (List.mem_of_getElem? (i := 463) (by decide +kernel))) rfl⟩
theorem ks_m1003 : (Int16.ofInt (-1003)).toInt32 = (-1003) := by decide
theorem ci_X1_isKnown : CIx yX1_isKnown cX1_isKnown 2 (some .boolean) 1 := ⟨in_wl (List.mem_append_right _ (List.mem_of_getElem? (i := 476) (by decide +kernel))) rfl, in_wl (List.mem_append_right _ (List.mem_of_getElem? (i := 3) (by decide +kernel))) rfl, by decide +kernel⟩
theorem ml_X9_100 : Cond.methodLink RX9 100 yX1_isKnown ∈ wl := in_wl (List.mem_append_right _ (List.mem_of_getElem? (i := 473) (by decide +kernel))) rfl
theorem mi_X1_isKnown : Cond.instanceMethod yX1_isKnown ∈ wl ∧ Cond.selects yX1_isKnown.cls yX1_isKnown yX1_isKnown ∈ wl := ⟨in_wl (List.mem_append_right _ (List.mem_of_getElem? (i := 474) (by decide +kernel))) rfl, in_wl (List.mem_append_right _ (List.mem_of_getElem? (i := 475) (by decide +kernel))) rfl⟩
theorem ml_X9_104 : Cond.methodLink RX9 104 yX9_allBelow ∈ wl := in_wl (List.mem_append_right _ (List.mem_of_getElem? (i := 478) (by decide +kernel))) rfl
theorem fo_X9_108 : FO RX9 108 1 4 := ⟨RX1, TX1, 10, rfl, inW1, by decide, in_wl (List.mem_append_right _ (List.mem_of_getElem? (i := 59) (by decide +kernel))) rfl⟩
theorem ks_m1001 : (Int16.ofInt (-1001)).toInt32 = (-1001) := by decide
theorem fo_X9_112 : FO RX9 112 1 6 := ⟨RX1, TX1, 10, rfl, inW1, by decide, in_wl (List.mem_append_right _ (List.mem_of_getElem? (i := 63) (by decide +kernel))) rfl⟩
theorem fo_X9_115 : FO RX9 115 1 5 := ⟨RX1, TX1, 10, rfl, inW1, by decide, in_wl (List.mem_append_right _ (List.mem_of_getElem? (i := 61) (by decide +kernel))) rfl⟩
theorem kb_9 : (Int8.ofInt 9).toInt32 = 9 := by decide
theorem fo_X9_118 : FO RX9 118 1 7 := ⟨RX1, TX1, 10, rfl, inW1, by decide, in_wl (List.mem_append_right _ (List.mem_of_getElem? (i := 66) (by decide +kernel))) rfl⟩
theorem ci_X1_setApart : CIx yX1_setApart cX1_setApart 5 (some .boolean) 3 := ⟨in_wl (List.mem_append_right _ (List.mem_of_getElem? (i := 494) (by decide +kernel))) rfl, in_wl (List.mem_append_right _ (List.mem_of_getElem? (i := 3) (by decide +kernel))) rfl, by decide +kernel⟩
theorem ml_X9_121 : Cond.methodLink RX9 121 yX1_setApart ∈ wl := in_wl (List.mem_append_right _ (List.mem_of_getElem? (i := 491) (by decide +kernel))) rfl
theorem mi_X1_setApart : Cond.instanceMethod yX1_setApart ∈ wl ∧ Cond.selects yX1_setApart.cls yX1_setApart yX1_setApart ∈ wl := ⟨in_wl (List.mem_append_right _ (List.mem_of_getElem? (i := 492) (by decide +kernel))) rfl, in_wl (List.mem_append_right _ (List.mem_of_getElem? (i := 493) (by decide +kernel))) rfl⟩
theorem fo_X9_71 : FO RX9 71 9 8 := ⟨RX9, TX9, 11, rfl, inW9, by decide, in_wl (List.mem_append_right _ (List.mem_of_getElem? (i := 378) (by decide +kernel))) rfl⟩
theorem fp_9_8 : FP 9 8 .int := ⟨RX9, TX9, 11, tyX9, rfl, tyX9_ok, nmX9, rfl, by decide +kernel⟩
theorem fo_X9_129 : FO RX9 129 1 2 := ⟨RX1, TX1, 10, rfl, inW1, by decide, in_wl (List.mem_append_right _ (List.mem_of_getElem? (i := 56) (by decide +kernel))) rfl⟩
theorem ml_X9_125 : Cond.methodLink RX9 125 yX1_widthOf ∈ wl := in_wl (List.mem_append_right _ (List.mem_of_getElem? (i := 506) (by decide +kernel))) rfl
theorem fo_X9_26 : FO RX9 26 9 2 := ⟨RX9, TX9, 11, rfl, inW9, by decide, in_wl (List.mem_append_right _ (List.mem_of_getElem? (i := 372) (by decide +kernel))) rfl⟩
theorem fo_X9_133 : FO RX9 133 3 10 := ⟨RX3, TX3, 15, rfl, inW3, by decide, in_wl (List.mem_append_right _ (List.mem_of_getElem? (i := 124) (by decide +kernel))) rfl⟩
theorem fo_X9_134 : FO RX9 134 3 11 := ⟨RX3, TX3, 15, rfl, inW3, by decide, in_wl (List.mem_append_right _ (List.mem_of_getElem? (i := 127) (by decide +kernel))) rfl⟩
theorem fo_X9_137 : FO RX9 137 3 13 := ⟨RX3, TX3, 15, rfl, inW3, by decide, in_wl (List.mem_append_right _ (List.mem_of_getElem? (i := 132) (by decide +kernel))) rfl⟩
theorem fo_X9_140 : FO RX9 140 3 14 := ⟨RX3, TX3, 15, rfl, inW3, by decide, in_wl (List.mem_append_right _ (List.mem_of_getElem? (i := 134) (by decide +kernel))) rfl⟩
theorem ci_X1_pairsApart : CIx yX1_pairsApart cX1_pairsApart 3 (some .int) 0 := ⟨in_wl (List.mem_append_right _ (List.mem_of_getElem? (i := 517) (by decide +kernel))) rfl, in_wl (List.mem_append_right _ (List.mem_of_getElem? (i := 3) (by decide +kernel))) rfl, by decide +kernel⟩
theorem ml_X9_143 : Cond.methodLink RX9 143 yX1_pairsApart ∈ wl := in_wl (List.mem_append_right _ (List.mem_of_getElem? (i := 514) (by decide +kernel))) rfl
theorem mi_X1_pairsApart : Cond.instanceMethod yX1_pairsApart ∈ wl ∧ Cond.selects yX1_pairsApart.cls yX1_pairsApart yX1_pairsApart ∈ wl := ⟨in_wl (List.mem_append_right _ (List.mem_of_getElem? (i := 515) (by decide +kernel))) rfl, in_wl (List.mem_append_right _ (List.mem_of_getElem? (i := 516) (by decide +kernel))) rfl⟩
theorem fo_X9_75 : FO RX9 75 9 9 := ⟨RX9, TX9, 11, rfl, inW9, by decide, in_wl (List.mem_append_right _ (List.mem_of_getElem? (i := 379) (by decide +kernel))) rfl⟩
theorem ml_X9_146 : Cond.methodLink RX9 146 yJ6_bitCount_0f7a4 ∈ wl := in_wl (List.mem_append_right _ (List.mem_of_getElem? (i := 524) (by decide +kernel))) rfl
theorem fo_X9_35 : FO RX9 35 9 3 := ⟨RX9, TX9, 11, rfl, inW9, by decide, in_wl (List.mem_append_right _ (List.mem_of_getElem? (i := 373) (by decide +kernel))) rfl⟩
theorem ci_X2_parse : CIx yX2_parse cX2_parse 4 none 1 := ⟨in_wl (List.mem_append_right _ (List.mem_of_getElem? (i := 532) (by decide +kernel))) rfl, in_wl (List.mem_append_right _ (List.mem_of_getElem? (i := 6) (by decide +kernel))) rfl, by decide +kernel⟩
theorem ml_X9_151 : Cond.methodLink RX9 151 yX2_parse ∈ wl := in_wl (List.mem_append_right _ (List.mem_of_getElem? (i := 529) (by decide +kernel))) rfl
theorem mi_X2_parse : Cond.instanceMethod yX2_parse ∈ wl ∧ Cond.selects yX2_parse.cls yX2_parse yX2_parse ∈ wl := ⟨in_wl (List.mem_append_right _ (List.mem_of_getElem? (i := 530) (by decide +kernel))) rfl, in_wl (List.mem_append_right _ (List.mem_of_getElem? (i := 531) (by decide +kernel))) rfl⟩
theorem fo_X9_154 : FO RX9 154 2 7 := ⟨RX2, TX2, 13, rfl, inW2, by decide, in_wl (List.mem_append_right _ (List.mem_of_getElem? (i := 184) (by decide +kernel))) rfl⟩
theorem fo_X9_78 : FO RX9 78 9 10 := ⟨RX9, TX9, 11, rfl, inW9, by decide, in_wl (List.mem_append_right _ (List.mem_of_getElem? (i := 380) (by decide +kernel))) rfl⟩
theorem fp_9_10 : FP 9 10 .int := ⟨RX9, TX9, 11, tyX9, rfl, tyX9_ok, nmX9, rfl, by decide +kernel⟩
theorem fo_X9_155 : FO RX9 155 2 6 := ⟨RX2, TX2, 13, rfl, inW2, by decide, in_wl (List.mem_append_right _ (List.mem_of_getElem? (i := 182) (by decide +kernel))) rfl⟩
theorem ci_X3_add : CIx yX3_add cX3_add 3 none 1 := ⟨in_wl (List.mem_append_right _ (List.mem_of_getElem? (i := 633) (by decide +kernel))) rfl, in_wl (List.mem_append_right _ (List.mem_of_getElem? (i := 5) (by decide +kernel))) rfl, by decide +kernel⟩
theorem ml_X9_158 : Cond.methodLink RX9 158 yX3_add ∈ wl := in_wl (List.mem_append_right _ (List.mem_of_getElem? (i := 630) (by decide +kernel))) rfl
theorem mi_X3_add : Cond.instanceMethod yX3_add ∈ wl ∧ Cond.selects yX3_add.cls yX3_add yX3_add ∈ wl := ⟨in_wl (List.mem_append_right _ (List.mem_of_getElem? (i := 631) (by decide +kernel))) rfl, in_wl (List.mem_append_right _ (List.mem_of_getElem? (i := 632) (by decide +kernel))) rfl⟩
theorem kb_m10 : (Int8.ofInt (-10)).toInt32 = (-10) := by decide
theorem fo_X9_162 : FO RX9 162 3 2 := ⟨RX3, TX3, 15, rfl, inW3, by decide, in_wl (List.mem_append_right _ (List.mem_of_getElem? (i := 104) (by decide +kernel))) rfl⟩
theorem fo_X9_165 : FO RX9 165 3 3 := ⟨RX3, TX3, 15, rfl, inW3, by decide, in_wl (List.mem_append_right _ (List.mem_of_getElem? (i := 107) (by decide +kernel))) rfl⟩
theorem fo_X9_168 : FO RX9 168 3 4 := ⟨RX3, TX3, 15, rfl, inW3, by decide, in_wl (List.mem_append_right _ (List.mem_of_getElem? (i := 110) (by decide +kernel))) rfl⟩
theorem fo_X9_171 : FO RX9 171 3 6 := ⟨RX3, TX3, 15, rfl, inW3, by decide, in_wl (List.mem_append_right _ (List.mem_of_getElem? (i := 114) (by decide +kernel))) rfl⟩
theorem fo_X9_58 : FO RX9 58 9 6 := ⟨RX9, TX9, 11, rfl, inW9, by decide, in_wl (List.mem_append_right _ (List.mem_of_getElem? (i := 376) (by decide +kernel))) rfl⟩
theorem ml_X9_174 : Cond.methodLink RX9 174 yX0_widthAt ∈ wl := in_wl (List.mem_append_right _ (List.mem_of_getElem? (i := 647) (by decide +kernel))) rfl
theorem ci_X3_isBar : CIx yX3_isBar cX3_isBar 2 (some .boolean) 1 := ⟨in_wl (List.mem_append_right _ (List.mem_of_getElem? (i := 659) (by decide +kernel))) rfl, in_wl (List.mem_append_right _ (List.mem_of_getElem? (i := 5) (by decide +kernel))) rfl, by decide +kernel⟩
theorem ml_X9_177 : Cond.methodLink RX9 177 yX3_isBar ∈ wl := in_wl (List.mem_append_right _ (List.mem_of_getElem? (i := 656) (by decide +kernel))) rfl
theorem mi_X3_isBar : Cond.instanceMethod yX3_isBar ∈ wl ∧ Cond.selects yX3_isBar.cls yX3_isBar yX3_isBar ∈ wl := ⟨in_wl (List.mem_append_right _ (List.mem_of_getElem? (i := 657) (by decide +kernel))) rfl, in_wl (List.mem_append_right _ (List.mem_of_getElem? (i := 658) (by decide +kernel))) rfl⟩
theorem fo_X9_180 : FO RX9 180 3 9 := ⟨RX3, TX3, 15, rfl, inW3, by decide, in_wl (List.mem_append_right _ (List.mem_of_getElem? (i := 122) (by decide +kernel))) rfl⟩
theorem ml_X9_183 : Cond.methodLink RX9 183 yX9_has ∈ wl := in_wl (List.mem_append_right _ (List.mem_of_getElem? (i := 661) (by decide +kernel))) rfl
theorem ci_X3_pair : CIx yX3_pair cX3_pair 3 none 2 := ⟨in_wl (List.mem_append_right _ (List.mem_of_getElem? (i := 665) (by decide +kernel))) rfl, in_wl (List.mem_append_right _ (List.mem_of_getElem? (i := 5) (by decide +kernel))) rfl, by decide +kernel⟩
theorem ml_X9_187 : Cond.methodLink RX9 187 yX3_pair ∈ wl := in_wl (List.mem_append_right _ (List.mem_of_getElem? (i := 662) (by decide +kernel))) rfl
theorem mi_X3_pair : Cond.instanceMethod yX3_pair ∈ wl ∧ Cond.selects yX3_pair.cls yX3_pair yX3_pair ∈ wl := ⟨in_wl (List.mem_append_right _ (List.mem_of_getElem? (i := 663) (by decide +kernel))) rfl, in_wl (List.mem_append_right _ (List.mem_of_getElem? (i := 664) (by decide +kernel))) rfl⟩
theorem ci_X9_countReadings : CIx yX9_countReadings cX9_countReadings 2 (some .int) 1 := ⟨in_wl (List.mem_append_right _ (List.mem_of_getElem? (i := 673) (by decide +kernel))) rfl, in_wl (List.mem_append_right _ (List.mem_of_getElem? (i := 1) (by decide +kernel))) rfl, by decide +kernel⟩
theorem ml_X9_191 : Cond.methodLink RX9 191 yX9_countReadings ∈ wl := in_wl (List.mem_append_right _ (List.mem_of_getElem? (i := 670) (by decide +kernel))) rfl
theorem mi_X9_countReadings : Cond.instanceMethod yX9_countReadings ∈ wl ∧ Cond.selects yX9_countReadings.cls yX9_countReadings yX9_countReadings ∈ wl := ⟨in_wl (List.mem_append_right _ (List.mem_of_getElem? (i := 672) (by decide +kernel))) rfl, in_wl (List.mem_of_getElem? (i := 13) (by decide +kernel)) rfl⟩
theorem ci_X9_goThrough : CIx yX9_goThrough cX9_goThrough 4 none 2 := ⟨in_wl (List.mem_append_right _ (List.mem_of_getElem? (i := 677) (by decide +kernel))) rfl, in_wl (List.mem_append_right _ (List.mem_of_getElem? (i := 1) (by decide +kernel))) rfl, by decide +kernel⟩
theorem ml_X9_194 : Cond.methodLink RX9 194 yX9_goThrough ∈ wl := in_wl (List.mem_append_right _ (List.mem_of_getElem? (i := 674) (by decide +kernel))) rfl
theorem mi_X9_goThrough : Cond.instanceMethod yX9_goThrough ∈ wl ∧ Cond.selects yX9_goThrough.cls yX9_goThrough yX9_goThrough ∈ wl := ⟨in_wl (List.mem_append_right _ (List.mem_of_getElem? (i := 676) (by decide +kernel))) rfl, in_wl (List.mem_of_getElem? (i := 14) (by decide +kernel)) rfl⟩
theorem fo_X9_67 : FO RX9 67 9 7 := ⟨RX9, TX9, 11, rfl, inW9, by decide, in_wl (List.mem_append_right _ (List.mem_of_getElem? (i := 377) (by decide +kernel))) rfl⟩
theorem fo_X9_209 : FO RX9 209 5 11 := ⟨RX5, TX5, 12, rfl, inW5, by decide, in_wl (List.mem_append_right _ (List.mem_of_getElem? (i := 343) (by decide +kernel))) rfl⟩
theorem fo_X9_197 : FO RX9 197 5 2 := ⟨RX5, TX5, 12, rfl, inW5, by decide, in_wl (List.mem_append_right _ (List.mem_of_getElem? (i := 332) (by decide +kernel))) rfl⟩
theorem fo_X9_201 : FO RX9 201 7 1 := ⟨RX7, TX7, 7, rfl, inW7, by decide, in_wl (List.mem_append_right _ (List.mem_of_getElem? (i := 303) (by decide +kernel))) rfl⟩
theorem ks_m1005 : (Int16.ofInt (-1005)).toInt32 = (-1005) := by decide
theorem ci_X0_measure : CIx yX0_measure cX0_measure 3 none 1 := ⟨in_wl (List.mem_append_right _ (List.mem_of_getElem? (i := 681) (by decide +kernel))) rfl, in_wl (List.mem_append_right _ (List.mem_of_getElem? (i := 9) (by decide +kernel))) rfl, by decide +kernel⟩
theorem ml_X9_269 : Cond.methodLink RX9 269 yX0_measure ∈ wl := in_wl (List.mem_append_right _ (List.mem_of_getElem? (i := 678) (by decide +kernel))) rfl
theorem mi_X0_measure : Cond.instanceMethod yX0_measure ∈ wl ∧ Cond.selects yX0_measure.cls yX0_measure yX0_measure ∈ wl := ⟨in_wl (List.mem_append_right _ (List.mem_of_getElem? (i := 679) (by decide +kernel))) rfl, in_wl (List.mem_append_right _ (List.mem_of_getElem? (i := 680) (by decide +kernel))) rfl⟩
theorem ci_X0_lay : CIx yX0_lay cX0_lay 5 none 2 := ⟨in_wl (List.mem_append_right _ (List.mem_of_getElem? (i := 699) (by decide +kernel))) rfl, in_wl (List.mem_append_right _ (List.mem_of_getElem? (i := 9) (by decide +kernel))) rfl, by decide +kernel⟩
theorem ml_X9_286 : Cond.methodLink RX9 286 yX0_lay ∈ wl := in_wl (List.mem_append_right _ (List.mem_of_getElem? (i := 696) (by decide +kernel))) rfl
theorem mi_X0_lay : Cond.instanceMethod yX0_lay ∈ wl ∧ Cond.selects yX0_lay.cls yX0_lay yX0_lay ∈ wl := ⟨in_wl (List.mem_append_right _ (List.mem_of_getElem? (i := 697) (by decide +kernel))) rfl, in_wl (List.mem_append_right _ (List.mem_of_getElem? (i := 698) (by decide +kernel))) rfl⟩
theorem ci_X5_go : CIx yX5_go cX5_go 4 none 1 := ⟨in_wl (List.mem_append_right _ (List.mem_of_getElem? (i := 744) (by decide +kernel))) rfl, in_wl (List.mem_append_right _ (List.mem_of_getElem? (i := 10) (by decide +kernel))) rfl, by decide +kernel⟩
theorem ml_X9_289 : Cond.methodLink RX9 289 yX5_go ∈ wl := in_wl (List.mem_append_right _ (List.mem_of_getElem? (i := 741) (by decide +kernel))) rfl
theorem mi_X5_go : Cond.instanceMethod yX5_go ∈ wl ∧ Cond.selects yX5_go.cls yX5_go yX5_go ∈ wl := ⟨in_wl (List.mem_append_right _ (List.mem_of_getElem? (i := 742) (by decide +kernel))) rfl, in_wl (List.mem_append_right _ (List.mem_of_getElem? (i := 743) (by decide +kernel))) rfl⟩
theorem fo_X9_49 : FO RX9 49 9 5 := ⟨RX9, TX9, 11, rfl, inW9, by decide, in_wl (List.mem_append_right _ (List.mem_of_getElem? (i := 375) (by decide +kernel))) rfl⟩
theorem fo_X9_303 : FO RX9 303 6 1 := ⟨RX6, TX6, 4, rfl, inW6, by decide, in_wl (List.mem_append_right _ (List.mem_of_getElem? (i := 244) (by decide +kernel))) rfl⟩
theorem fo_X9_42 : FO RX9 42 9 4 := ⟨RX9, TX9, 11, rfl, inW9, by decide, in_wl (List.mem_append_right _ (List.mem_of_getElem? (i := 374) (by decide +kernel))) rfl⟩
theorem ci_X4_leave : CIx yX4_leave cX4_leave 5 (some .int) 2 := ⟨in_wl (List.mem_append_right _ (List.mem_of_getElem? (i := 734) (by decide +kernel))) rfl, in_wl (List.mem_append_right _ (List.mem_of_getElem? (i := 7) (by decide +kernel))) rfl, by decide +kernel⟩
theorem ml_X9_306 : Cond.methodLink RX9 306 yX4_leave ∈ wl := in_wl (List.mem_append_right _ (List.mem_of_getElem? (i := 731) (by decide +kernel))) rfl
theorem mi_X4_leave : Cond.instanceMethod yX4_leave ∈ wl ∧ Cond.selects yX4_leave.cls yX4_leave yX4_leave ∈ wl := ⟨in_wl (List.mem_append_right _ (List.mem_of_getElem? (i := 732) (by decide +kernel))) rfl, in_wl (List.mem_append_right _ (List.mem_of_getElem? (i := 733) (by decide +kernel))) rfl⟩
theorem fo_X9_206 : FO RX9 206 5 3 := ⟨RX5, TX5, 12, rfl, inW5, by decide, in_wl (List.mem_append_right _ (List.mem_of_getElem? (i := 334) (by decide +kernel))) rfl⟩
theorem ci_X9_mayToReaders : CIx yX9_mayToReaders cX9_mayToReaders 3 (some .int) 2 := ⟨in_wl (List.mem_append_right _ (List.mem_of_getElem? (i := 793) (by decide +kernel))) rfl, in_wl (List.mem_append_right _ (List.mem_of_getElem? (i := 1) (by decide +kernel))) rfl, by decide +kernel⟩
theorem ml_X9_213 : Cond.methodLink RX9 213 yX9_mayToReaders ∈ wl := in_wl (List.mem_append_right _ (List.mem_of_getElem? (i := 790) (by decide +kernel))) rfl
theorem mi_X9_mayToReaders : Cond.instanceMethod yX9_mayToReaders ∈ wl ∧ Cond.selects yX9_mayToReaders.cls yX9_mayToReaders yX9_mayToReaders ∈ wl := ⟨in_wl (List.mem_append_right _ (List.mem_of_getElem? (i := 792) (by decide +kernel))) rfl, in_wl (List.mem_of_getElem? (i := 24) (by decide +kernel)) rfl⟩
theorem fo_X9_309 : FO RX9 309 7 0 := ⟨RX7, TX7, 7, rfl, inW7, by decide, in_wl (List.mem_append_right _ (List.mem_of_getElem? (i := 300) (by decide +kernel))) rfl⟩
theorem fo_X9_216 : FO RX9 216 3 8 := ⟨RX3, TX3, 15, rfl, inW3, by decide, in_wl (List.mem_append_right _ (List.mem_of_getElem? (i := 119) (by decide +kernel))) rfl⟩
theorem ml_X9_219 : Cond.methodLink RX9 219 yX0_fittingAt ∈ wl := in_wl (List.mem_append_right _ (List.mem_of_getElem? (i := 798) (by decide +kernel))) rfl
theorem kl_X9_222 : Cond.constantLong RX9 222 (-1001) ∈ wl := in_wl (List.mem_append_right _ (List.mem_of_getElem? (i := 803) (by decide +kernel))) rfl
theorem ci_X7_ask : CIx yX7_ask cX7_ask 3 none 2 := ⟨in_wl (List.mem_append_right _ (List.mem_of_getElem? (i := 808) (by decide +kernel))) rfl, in_wl (List.mem_append_right _ (List.mem_of_getElem? (i := 11) (by decide +kernel))) rfl, by decide +kernel⟩
theorem ml_X9_226 : Cond.methodLink RX9 226 yX7_ask ∈ wl := in_wl (List.mem_append_right _ (List.mem_of_getElem? (i := 805) (by decide +kernel))) rfl
theorem mi_X7_ask : Cond.instanceMethod yX7_ask ∈ wl ∧ Cond.selects yX7_ask.cls yX7_ask yX7_ask ∈ wl := ⟨in_wl (List.mem_append_right _ (List.mem_of_getElem? (i := 806) (by decide +kernel))) rfl, in_wl (List.mem_append_right _ (List.mem_of_getElem? (i := 807) (by decide +kernel))) rfl⟩
theorem fo_X9_231 : FO RX9 231 7 4 := ⟨RX7, TX7, 7, rfl, inW7, by decide, in_wl (List.mem_append_right _ (List.mem_of_getElem? (i := 309) (by decide +kernel))) rfl⟩
theorem fo_X9_235 : FO RX9 235 7 3 := ⟨RX7, TX7, 7, rfl, inW7, by decide, in_wl (List.mem_append_right _ (List.mem_of_getElem? (i := 307) (by decide +kernel))) rfl⟩
theorem ci_X9_commonDivisor : CIx yX9_commonDivisor cX9_commonDivisor 11 (some .long) 2 := ⟨in_wl (List.mem_append_right _ (List.mem_of_getElem? (i := 812) (by decide +kernel))) rfl, in_wl (List.mem_append_right _ (List.mem_of_getElem? (i := 1) (by decide +kernel))) rfl, by decide +kernel⟩
theorem ml_X9_238 : Cond.methodLink RX9 238 yX9_commonDivisor ∈ wl := in_wl (List.mem_append_right _ (List.mem_of_getElem? (i := 810) (by decide +kernel))) rfl
theorem ms_X9_commonDivisor : Cond.static yX9_commonDivisor ∈ wl := in_wl (List.mem_append_right _ (List.mem_of_getElem? (i := 811) (by decide +kernel))) rfl
theorem kl_X9_242 : Cond.constantLong RX9 242 (-1003) ∈ wl := in_wl (List.mem_append_right _ (List.mem_of_getElem? (i := 814) (by decide +kernel))) rfl
theorem kl_X9_229 : Cond.constantLong RX9 229 (-1005) ∈ wl := in_wl (List.mem_append_right _ (List.mem_of_getElem? (i := 809) (by decide +kernel))) rfl
theorem kl_X9_224 : Cond.constantLong RX9 224 (-1002) ∈ wl := in_wl (List.mem_append_right _ (List.mem_of_getElem? (i := 804) (by decide +kernel))) rfl
theorem ki_X9_315 : Cond.constant RX9 315 100000 ∈ wl := in_wl (List.mem_append_right _ (List.mem_of_getElem? (i := 813) (by decide +kernel))) rfl
theorem ci_X0_shownOn : CIx yX0_shownOn cX0_shownOn 5 (some .int) 2 := ⟨in_wl (List.mem_append_right _ (List.mem_of_getElem? (i := 822) (by decide +kernel))) rfl, in_wl (List.mem_append_right _ (List.mem_of_getElem? (i := 9) (by decide +kernel))) rfl, by decide +kernel⟩
theorem ml_X9_244 : Cond.methodLink RX9 244 yX0_shownOn ∈ wl := in_wl (List.mem_append_right _ (List.mem_of_getElem? (i := 819) (by decide +kernel))) rfl
theorem mi_X0_shownOn : Cond.instanceMethod yX0_shownOn ∈ wl ∧ Cond.selects yX0_shownOn.cls yX0_shownOn yX0_shownOn ∈ wl := ⟨in_wl (List.mem_append_right _ (List.mem_of_getElem? (i := 820) (by decide +kernel))) rfl, in_wl (List.mem_append_right _ (List.mem_of_getElem? (i := 821) (by decide +kernel))) rfl⟩
theorem fo_X9_247 : FO RX9 247 7 2 := ⟨RX7, TX7, 7, rfl, inW7, by decide, in_wl (List.mem_append_right _ (List.mem_of_getElem? (i := 305) (by decide +kernel))) rfl⟩
theorem fo_X9_250 : FO RX9 250 6 3 := ⟨RX6, TX6, 4, rfl, inW6, by decide, in_wl (List.mem_append_right _ (List.mem_of_getElem? (i := 251) (by decide +kernel))) rfl⟩
theorem ci_X7_inSome : CIx yX7_inSome cX7_inSome 4 (some .int) 1 := ⟨in_wl (List.mem_append_right _ (List.mem_of_getElem? (i := 826) (by decide +kernel))) rfl, in_wl (List.mem_append_right _ (List.mem_of_getElem? (i := 11) (by decide +kernel))) rfl, by decide +kernel⟩
theorem ml_X9_251 : Cond.methodLink RX9 251 yX7_inSome ∈ wl := in_wl (List.mem_append_right _ (List.mem_of_getElem? (i := 823) (by decide +kernel))) rfl
theorem mi_X7_inSome : Cond.instanceMethod yX7_inSome ∈ wl ∧ Cond.selects yX7_inSome.cls yX7_inSome yX7_inSome ∈ wl := ⟨in_wl (List.mem_append_right _ (List.mem_of_getElem? (i := 824) (by decide +kernel))) rfl, in_wl (List.mem_append_right _ (List.mem_of_getElem? (i := 825) (by decide +kernel))) rfl⟩
theorem ci_X1_areKnown : CIx yX1_areKnown cX1_areKnown 2 (some .boolean) 1 := ⟨in_wl (List.mem_append_right _ (List.mem_of_getElem? (i := 834) (by decide +kernel))) rfl, in_wl (List.mem_append_right _ (List.mem_of_getElem? (i := 3) (by decide +kernel))) rfl, by decide +kernel⟩
theorem ml_X9_254 : Cond.methodLink RX9 254 yX1_areKnown ∈ wl := in_wl (List.mem_append_right _ (List.mem_of_getElem? (i := 831) (by decide +kernel))) rfl
theorem mi_X1_areKnown : Cond.instanceMethod yX1_areKnown ∈ wl ∧ Cond.selects yX1_areKnown.cls yX1_areKnown yX1_areKnown ∈ wl := ⟨in_wl (List.mem_append_right _ (List.mem_of_getElem? (i := 832) (by decide +kernel))) rfl, in_wl (List.mem_append_right _ (List.mem_of_getElem? (i := 833) (by decide +kernel))) rfl⟩
theorem fo_X9_257 : FO RX9 257 4 0 := ⟨RX4, TX4, 2, rfl, inW4, by decide, in_wl (List.mem_append_right _ (List.mem_of_getElem? (i := 228) (by decide +kernel))) rfl⟩
theorem ci_X4_learn : CIx yX4_learn cX4_learn 5 (some .int) 3 := ⟨in_wl (List.mem_append_right _ (List.mem_of_getElem? (i := 842) (by decide +kernel))) rfl, in_wl (List.mem_append_right _ (List.mem_of_getElem? (i := 7) (by decide +kernel))) rfl, by decide +kernel⟩
theorem ml_X9_260 : Cond.methodLink RX9 260 yX4_learn ∈ wl := in_wl (List.mem_append_right _ (List.mem_of_getElem? (i := 839) (by decide +kernel))) rfl
theorem mi_X4_learn : Cond.instanceMethod yX4_learn ∈ wl ∧ Cond.selects yX4_learn.cls yX4_learn yX4_learn ∈ wl := ⟨in_wl (List.mem_append_right _ (List.mem_of_getElem? (i := 840) (by decide +kernel))) rfl, in_wl (List.mem_append_right _ (List.mem_of_getElem? (i := 841) (by decide +kernel))) rfl⟩
theorem ci_X9_areReaders : CIx yX9_areReaders cX9_areReaders 1 (some .boolean) 1 := ⟨in_wl (List.mem_append_right _ (List.mem_of_getElem? (i := 849) (by decide +kernel))) rfl, in_wl (List.mem_append_right _ (List.mem_of_getElem? (i := 1) (by decide +kernel))) rfl, by decide +kernel⟩
theorem ml_X9_263 : Cond.methodLink RX9 263 yX9_areReaders ∈ wl := in_wl (List.mem_append_right _ (List.mem_of_getElem? (i := 847) (by decide +kernel))) rfl
theorem ms_X9_areReaders : Cond.static yX9_areReaders ∈ wl := in_wl (List.mem_append_right _ (List.mem_of_getElem? (i := 848) (by decide +kernel))) rfl
theorem fp_9_9 : FP 9 9 .int := ⟨RX9, TX9, 11, tyX9, rfl, tyX9_ok, nmX9, rfl, by decide +kernel⟩
theorem ci_X9_betrayedNow : CIx yX9_betrayedNow cX9_betrayedNow 1 (some .int) 0 := ⟨in_wl (List.mem_append_right _ (List.mem_of_getElem? (i := 865) (by decide +kernel))) rfl, in_wl (List.mem_append_right _ (List.mem_of_getElem? (i := 1) (by decide +kernel))) rfl, by decide +kernel⟩
theorem ml_X9_266 : Cond.methodLink RX9 266 yX9_betrayedNow ∈ wl := in_wl (List.mem_append_right _ (List.mem_of_getElem? (i := 862) (by decide +kernel))) rfl
theorem mi_X9_betrayedNow : Cond.instanceMethod yX9_betrayedNow ∈ wl ∧ Cond.selects yX9_betrayedNow.cls yX9_betrayedNow yX9_betrayedNow ∈ wl := ⟨in_wl (List.mem_append_right _ (List.mem_of_getElem? (i := 864) (by decide +kernel))) rfl, in_wl (List.mem_of_getElem? (i := 25) (by decide +kernel)) rfl⟩
theorem ci_X7_toldNames : CIx yX7_toldNames cX7_toldNames 4 (some .int) 1 := ⟨in_wl (List.mem_append_right _ (List.mem_of_getElem? (i := 869) (by decide +kernel))) rfl, in_wl (List.mem_append_right _ (List.mem_of_getElem? (i := 11) (by decide +kernel))) rfl, by decide +kernel⟩
theorem ml_X9_312 : Cond.methodLink RX9 312 yX7_toldNames ∈ wl := in_wl (List.mem_append_right _ (List.mem_of_getElem? (i := 866) (by decide +kernel))) rfl
theorem mi_X7_toldNames : Cond.instanceMethod yX7_toldNames ∈ wl ∧ Cond.selects yX7_toldNames.cls yX7_toldNames yX7_toldNames ∈ wl := ⟨in_wl (List.mem_append_right _ (List.mem_of_getElem? (i := 867) (by decide +kernel))) rfl, in_wl (List.mem_append_right _ (List.mem_of_getElem? (i := 868) (by decide +kernel))) rfl⟩
theorem ci_X9_tryToOpen : CIx yX9_tryToOpen cX9_tryToOpen 2 (some .int) 1 := ⟨in_wl (List.mem_append_right _ (List.mem_of_getElem? (i := 878) (by decide +kernel))) rfl, in_wl (List.mem_append_right _ (List.mem_of_getElem? (i := 1) (by decide +kernel))) rfl, by decide +kernel⟩
theorem ml_X9_272 : Cond.methodLink RX9 272 yX9_tryToOpen ∈ wl := in_wl (List.mem_append_right _ (List.mem_of_getElem? (i := 875) (by decide +kernel))) rfl
theorem mi_X9_tryToOpen : Cond.instanceMethod yX9_tryToOpen ∈ wl ∧ Cond.selects yX9_tryToOpen.cls yX9_tryToOpen yX9_tryToOpen ∈ wl := ⟨in_wl (List.mem_append_right _ (List.mem_of_getElem? (i := 877) (by decide +kernel))) rfl, in_wl (List.mem_of_getElem? (i := 26) (by decide +kernel)) rfl⟩
theorem fo_X9_275 : FO RX9 275 3 12 := ⟨RX3, TX3, 15, rfl, inW3, by decide, in_wl (List.mem_append_right _ (List.mem_of_getElem? (i := 129) (by decide +kernel))) rfl⟩
theorem ml_X9_278 : Cond.methodLink RX9 278 yJ9_min_7cf53 ∈ wl := in_wl (List.mem_append_right _ (List.mem_of_getElem? (i := 887) (by decide +kernel))) rfl
theorem ci_X9_tryToBar : CIx yX9_tryToBar cX9_tryToBar 3 (some .int) 1 := ⟨in_wl (List.mem_append_right _ (List.mem_of_getElem? (i := 891) (by decide +kernel))) rfl, in_wl (List.mem_append_right _ (List.mem_of_getElem? (i := 1) (by decide +kernel))) rfl, by decide +kernel⟩
theorem ml_X9_283 : Cond.methodLink RX9 283 yX9_tryToBar ∈ wl := in_wl (List.mem_append_right _ (List.mem_of_getElem? (i := 888) (by decide +kernel))) rfl
theorem mi_X9_tryToBar : Cond.instanceMethod yX9_tryToBar ∈ wl ∧ Cond.selects yX9_tryToBar.cls yX9_tryToBar yX9_tryToBar ∈ wl := ⟨in_wl (List.mem_append_right _ (List.mem_of_getElem? (i := 890) (by decide +kernel))) rfl, in_wl (List.mem_of_getElem? (i := 27) (by decide +kernel)) rfl⟩
theorem ci_X10_in : CIx yX10_in cX10_in 6 (some .boolean) 3 := ⟨in_wl (List.mem_append_right _ (List.mem_of_getElem? (i := 1086) (by decide +kernel))) rfl, in_wl (List.mem_append_right _ (List.mem_of_getElem? (i := 12) (by decide +kernel))) rfl, by decide +kernel⟩
theorem ml_X10_108 : Cond.methodLink RX10 108 yX10_in ∈ wl := in_wl (List.mem_append_right _ (List.mem_of_getElem? (i := 1084) (by decide +kernel))) rfl
theorem ms_X10_in : Cond.static yX10_in ∈ wl := in_wl (List.mem_append_right _ (List.mem_of_getElem? (i := 1085) (by decide +kernel))) rfl
theorem kl_X10_112 : Cond.constantLong RX10 112 25 ∈ wl := in_wl (List.mem_append_right _ (List.mem_of_getElem? (i := 1087) (by decide +kernel))) rfl
theorem kl_X10_114 : Cond.constantLong RX10 114 20 ∈ wl := in_wl (List.mem_append_right _ (List.mem_of_getElem? (i := 1088) (by decide +kernel))) rfl
theorem fo_X10_7 : FO RX10 7 10 0 := ⟨RX10, TX10, 59, rfl, inW10, by decide, in_wl (List.mem_append_right _ (List.mem_of_getElem? (i := 902) (by decide +kernel))) rfl⟩
theorem sh_48 : shp[48]? = some (.inl (10, [51, 0, 52, 53, 54, 55, 56, 57, 58, 0, 0, 59, 0, 0, 60, 61, 0, 62, 63, 64, 65, 66, 0, 67, 0, 68, 69, 0, 0, 0, 0, 0, 0, 0, 70, 71, 72, 0, 0, 0, 73, 0, 74, 0, 75, 76, 0, 0, 1, 77, 78, 0, 0, 0, 0, 0, 79, 80, 81])) := rfl
theorem sh_49 : shp[49]? = some (.inr (52, 0)) := rfl
theorem kl_X10_116 : Cond.constantLong RX10 116 8 ∈ wl := in_wl (List.mem_append_right _ (List.mem_of_getElem? (i := 1093) (by decide +kernel))) rfl
theorem fo_X10_118 : FO RX10 118 10 12 := ⟨RX10, TX10, 59, rfl, inW10, by decide, in_wl (List.mem_append_right _ (List.mem_of_getElem? (i := 914) (by decide +kernel))) rfl⟩
theorem fo_X10_34 : FO RX10 34 10 11 := ⟨RX10, TX10, 59, rfl, inW10, by decide, in_wl (List.mem_append_right _ (List.mem_of_getElem? (i := 913) (by decide +kernel))) rfl⟩
theorem kl_X10_121 : Cond.constantLong RX10 121 255 ∈ wl := in_wl (List.mem_append_right _ (List.mem_of_getElem? (i := 1094) (by decide +kernel))) rfl
theorem sh_57 : shp[57]? = some (.inr (120, 0)) := rfl
theorem fp_10_12 : FP 10 12 .int := ⟨RX10, TX10, 59, tyX10, rfl, tyX10_ok, nmX10, rfl, by decide +kernel⟩
theorem fo_X10_123 : FO RX10 123 10 1 := ⟨RX10, TX10, 59, rfl, inW10, by decide, in_wl (List.mem_append_right _ (List.mem_of_getElem? (i := 903) (by decide +kernel))) rfl⟩
theorem fo_X10_16 : FO RX10 16 10 3 := ⟨RX10, TX10, 59, rfl, inW10, by decide, in_wl (List.mem_append_right _ (List.mem_of_getElem? (i := 905) (by decide +kernel))) rfl⟩
theorem sh_51 : shp[51]? = some (.inr (10, 0)) := rfl
theorem fo_X10_13 : FO RX10 13 10 2 := ⟨RX10, TX10, 59, rfl, inW10, by decide, in_wl (List.mem_append_right _ (List.mem_of_getElem? (i := 904) (by decide +kernel))) rfl⟩
theorem sh_50 : shp[50]? = some (.inr (120, 0)) := rfl
theorem kl_X10_126 : Cond.constantLong RX10 126 12 ∈ wl := in_wl (List.mem_append_right _ (List.mem_of_getElem? (i := 1099) (by decide +kernel))) rfl
theorem kl_X10_128 : Cond.constantLong RX10 128 97 ∈ wl := in_wl (List.mem_append_right _ (List.mem_of_getElem? (i := 1100) (by decide +kernel))) rfl
theorem kl_X10_130 : Cond.constantLong RX10 130 122 ∈ wl := in_wl (List.mem_append_right _ (List.mem_of_getElem? (i := 1101) (by decide +kernel))) rfl
theorem ci_X10_nameAt : CIx yX10_nameAt cX10_nameAt 6 (some .int) 2 := ⟨in_wl (List.mem_append_right _ (List.mem_of_getElem? (i := 1105) (by decide +kernel))) rfl, in_wl (List.mem_append_right _ (List.mem_of_getElem? (i := 12) (by decide +kernel))) rfl, by decide +kernel⟩
theorem ml_X10_132 : Cond.methodLink RX10 132 yX10_nameAt ∈ wl := in_wl (List.mem_append_right _ (List.mem_of_getElem? (i := 1102) (by decide +kernel))) rfl
theorem mi_X10_nameAt : Cond.instanceMethod yX10_nameAt ∈ wl ∧ Cond.selects yX10_nameAt.cls yX10_nameAt yX10_nameAt ∈ wl := ⟨in_wl (List.mem_append_right _ (List.mem_of_getElem? (i := 1104) (by decide +kernel))) rfl, in_wl (List.mem_of_getElem? (i := 28) (by decide +kernel)) rfl⟩
theorem fo_X10_19 : FO RX10 19 10 4 := ⟨RX10, TX10, 59, rfl, inW10, by decide, in_wl (List.mem_append_right _ (List.mem_of_getElem? (i := 906) (by decide +kernel))) rfl⟩
theorem kb_15 : (Int8.ofInt 15).toInt32 = 15 := by decide
theorem sh_52 : shp[52]? = some (.inr (10, 0)) := rfl
theorem fo_X10_22 : FO RX10 22 10 5 := ⟨RX10, TX10, 59, rfl, inW10, by decide, in_wl (List.mem_append_right _ (List.mem_of_getElem? (i := 907) (by decide +kernel))) rfl⟩
theorem sh_53 : shp[53]? = some (.inr (10, 0)) := rfl
theorem fo_X10_25 : FO RX10 25 10 6 := ⟨RX10, TX10, 59, rfl, inW10, by decide, in_wl (List.mem_append_right _ (List.mem_of_getElem? (i := 908) (by decide +kernel))) rfl⟩
theorem sh_54 : shp[54]? = some (.inr (10, 0)) := rfl
theorem fo_X10_28 : FO RX10 28 10 7 := ⟨RX10, TX10, 59, rfl, inW10, by decide, in_wl (List.mem_append_right _ (List.mem_of_getElem? (i := 909) (by decide +kernel))) rfl⟩
theorem sh_55 : shp[55]? = some (.inr (10, 0)) := rfl
theorem fo_X10_31 : FO RX10 31 10 8 := ⟨RX10, TX10, 59, rfl, inW10, by decide, in_wl (List.mem_append_right _ (List.mem_of_getElem? (i := 910) (by decide +kernel))) rfl⟩
theorem sh_56 : shp[56]? = some (.inr (10, 0)) := rfl
theorem fp_10_1 : FP 10 1 .int := ⟨RX10, TX10, 59, tyX10, rfl, tyX10_ok, nmX10, rfl, by decide +kernel⟩
theorem ci_X10_noName : CIx yX10_noName cX10_noName 2 (some .boolean) 1 := ⟨in_wl (List.mem_append_right _ (List.mem_of_getElem? (i := 1113) (by decide +kernel))) rfl, in_wl (List.mem_append_right _ (List.mem_of_getElem? (i := 12) (by decide +kernel))) rfl, by decide +kernel⟩
theorem ml_X10_136 : Cond.methodLink RX10 136 yX10_noName ∈ wl := in_wl (List.mem_append_right _ (List.mem_of_getElem? (i := 1110) (by decide +kernel))) rfl
theorem mi_X10_noName : Cond.instanceMethod yX10_noName ∈ wl ∧ Cond.selects yX10_noName.cls yX10_noName yX10_noName ∈ wl := ⟨in_wl (List.mem_append_right _ (List.mem_of_getElem? (i := 1112) (by decide +kernel))) rfl, in_wl (List.mem_of_getElem? (i := 29) (by decide +kernel)) rfl⟩
theorem kl_X10_140 : Cond.constantLong RX10 140 15 ∈ wl := in_wl (List.mem_append_right _ (List.mem_of_getElem? (i := 1114) (by decide +kernel))) rfl
theorem kl_X10_142 : Cond.constantLong RX10 142 99 ∈ wl := in_wl (List.mem_append_right _ (List.mem_of_getElem? (i := 1119) (by decide +kernel))) rfl
theorem kl_X10_144 : Cond.constantLong RX10 144 9 ∈ wl := in_wl (List.mem_append_right _ (List.mem_of_getElem? (i := 1124) (by decide +kernel))) rfl
theorem fo_X10_146 : FO RX10 146 10 9 := ⟨RX10, TX10, 59, rfl, inW10, by decide, in_wl (List.mem_append_right _ (List.mem_of_getElem? (i := 911) (by decide +kernel))) rfl⟩
theorem fp_10_9 : FP 10 9 .int := ⟨RX10, TX10, 59, tyX10, rfl, tyX10_ok, nmX10, rfl, by decide +kernel⟩
theorem ci_X10_widthOf : CIx yX10_widthOf cX10_widthOf 5 (some .int) 2 := ⟨in_wl (List.mem_append_right _ (List.mem_of_getElem? (i := 1140) (by decide +kernel))) rfl, in_wl (List.mem_append_right _ (List.mem_of_getElem? (i := 12) (by decide +kernel))) rfl, by decide +kernel⟩
theorem ml_X10_149 : Cond.methodLink RX10 149 yX10_widthOf ∈ wl := in_wl (List.mem_append_right _ (List.mem_of_getElem? (i := 1137) (by decide +kernel))) rfl
theorem mi_X10_widthOf : Cond.instanceMethod yX10_widthOf ∈ wl ∧ Cond.selects yX10_widthOf.cls yX10_widthOf yX10_widthOf ∈ wl := ⟨in_wl (List.mem_append_right _ (List.mem_of_getElem? (i := 1139) (by decide +kernel))) rfl, in_wl (List.mem_of_getElem? (i := 30) (by decide +kernel)) rfl⟩
theorem ci_X10_ones : CIx yX10_ones cX10_ones 3 (some .int) 1 := ⟨in_wl (List.mem_append_right _ (List.mem_of_getElem? (i := 1151) (by decide +kernel))) rfl, in_wl (List.mem_append_right _ (List.mem_of_getElem? (i := 12) (by decide +kernel))) rfl, by decide +kernel⟩
theorem ml_X10_152 : Cond.methodLink RX10 152 yX10_ones ∈ wl := in_wl (List.mem_append_right _ (List.mem_of_getElem? (i := 1149) (by decide +kernel))) rfl
theorem ms_X10_ones : Cond.static yX10_ones ∈ wl := in_wl (List.mem_append_right _ (List.mem_of_getElem? (i := 1150) (by decide +kernel))) rfl
theorem fo_X10_156 : FO RX10 156 10 13 := ⟨RX10, TX10, 59, rfl, inW10, by decide, in_wl (List.mem_append_right _ (List.mem_of_getElem? (i := 915) (by decide +kernel))) rfl⟩
theorem fo_X10_159 : FO RX10 159 10 16 := ⟨RX10, TX10, 59, rfl, inW10, by decide, in_wl (List.mem_append_right _ (List.mem_of_getElem? (i := 918) (by decide +kernel))) rfl⟩
theorem fo_X10_162 : FO RX10 162 10 22 := ⟨RX10, TX10, 59, rfl, inW10, by decide, in_wl (List.mem_append_right _ (List.mem_of_getElem? (i := 924) (by decide +kernel))) rfl⟩
theorem fo_X10_165 : FO RX10 165 10 24 := ⟨RX10, TX10, 59, rfl, inW10, by decide, in_wl (List.mem_append_right _ (List.mem_of_getElem? (i := 926) (by decide +kernel))) rfl⟩
theorem ci_X10_nevers : CIx yX10_nevers cX10_nevers 3 (some .int) 0 := ⟨in_wl (List.mem_append_right _ (List.mem_of_getElem? (i := 1148) (by decide +kernel))) rfl, in_wl (List.mem_append_right _ (List.mem_of_getElem? (i := 12) (by decide +kernel))) rfl, by decide +kernel⟩
theorem ml_X10_168 : Cond.methodLink RX10 168 yX10_nevers ∈ wl := in_wl (List.mem_append_right _ (List.mem_of_getElem? (i := 1145) (by decide +kernel))) rfl
theorem mi_X10_nevers : Cond.instanceMethod yX10_nevers ∈ wl ∧ Cond.selects yX10_nevers.cls yX10_nevers yX10_nevers ∈ wl := ⟨in_wl (List.mem_append_right _ (List.mem_of_getElem? (i := 1147) (by decide +kernel))) rfl, in_wl (List.mem_of_getElem? (i := 31) (by decide +kernel)) rfl⟩
theorem fo_X10_172 : FO RX10 172 10 10 := ⟨RX10, TX10, 59, rfl, inW10, by decide, in_wl (List.mem_append_right _ (List.mem_of_getElem? (i := 912) (by decide +kernel))) rfl⟩
theorem fo_X10_175 : FO RX10 175 10 27 := ⟨RX10, TX10, 59, rfl, inW10, by decide, in_wl (List.mem_append_right _ (List.mem_of_getElem? (i := 929) (by decide +kernel))) rfl⟩
theorem fp_10_27 : FP 10 27 .int := ⟨RX10, TX10, 59, tyX10, rfl, tyX10_ok, nmX10, rfl, by decide +kernel⟩
theorem fo_X10_178 : FO RX10 178 10 30 := ⟨RX10, TX10, 59, rfl, inW10, by decide, in_wl (List.mem_append_right _ (List.mem_of_getElem? (i := 932) (by decide +kernel))) rfl⟩
theorem fp_10_30 : FP 10 30 .int := ⟨RX10, TX10, 59, tyX10, rfl, tyX10_ok, nmX10, rfl, by decide +kernel⟩
theorem fo_X10_67 : FO RX10 67 10 31 := ⟨RX10, TX10, 59, rfl, inW10, by decide, in_wl (List.mem_append_right _ (List.mem_of_getElem? (i := 933) (by decide +kernel))) rfl⟩
theorem fp_10_31 : FP 10 31 .int := ⟨RX10, TX10, 59, tyX10, rfl, tyX10_ok, nmX10, rfl, by decide +kernel⟩
theorem ci_X10_here : CIx yX10_here cX10_here 1 (some .int) 0 := ⟨in_wl (List.mem_append_right _ (List.mem_of_getElem? (i := 1163) (by decide +kernel))) rfl, in_wl (List.mem_append_right _ (List.mem_of_getElem? (i := 12) (by decide +kernel))) rfl, by decide +kernel⟩
theorem ml_X10_181 : Cond.methodLink RX10 181 yX10_here ∈ wl := in_wl (List.mem_append_right _ (List.mem_of_getElem? (i := 1160) (by decide +kernel))) rfl
theorem mi_X10_here : Cond.instanceMethod yX10_here ∈ wl ∧ Cond.selects yX10_here.cls yX10_here yX10_here ∈ wl := ⟨in_wl (List.mem_append_right _ (List.mem_of_getElem? (i := 1162) (by decide +kernel))) rfl, in_wl (List.mem_of_getElem? (i := 33) (by decide +kernel)) rfl⟩
theorem fo_X10_184 : FO RX10 184 10 28 := ⟨RX10, TX10, 59, rfl, inW10, by decide, in_wl (List.mem_append_right _ (List.mem_of_getElem? (i := 930) (by decide +kernel))) rfl⟩
theorem fp_10_28 : FP 10 28 .int := ⟨RX10, TX10, 59, tyX10, rfl, tyX10_ok, nmX10, rfl, by decide +kernel⟩
theorem fo_X10_187 : FO RX10 187 10 29 := ⟨RX10, TX10, 59, rfl, inW10, by decide, in_wl (List.mem_append_right _ (List.mem_of_getElem? (i := 931) (by decide +kernel))) rfl⟩
theorem fp_10_29 : FP 10 29 .int := ⟨RX10, TX10, 59, tyX10, rfl, tyX10_ok, nmX10, rfl, by decide +kernel⟩
theorem kl_X10_190 : Cond.constantLong RX10 190 48 ∈ wl := in_wl (List.mem_append_right _ (List.mem_of_getElem? (i := 1176) (by decide +kernel))) rfl
theorem kl_X10_192 : Cond.constantLong RX10 192 57 ∈ wl := in_wl (List.mem_append_right _ (List.mem_of_getElem? (i := 1177) (by decide +kernel))) rfl
theorem ci_X10_want : CIx yX10_want cX10_want 4 (some .boolean) 3 := ⟨in_wl (List.mem_append_right _ (List.mem_of_getElem? (i := 1171) (by decide +kernel))) rfl, in_wl (List.mem_append_right _ (List.mem_of_getElem? (i := 12) (by decide +kernel))) rfl, by decide +kernel⟩
theorem ml_X10_194 : Cond.methodLink RX10 194 yX10_want ∈ wl := in_wl (List.mem_append_right _ (List.mem_of_getElem? (i := 1168) (by decide +kernel))) rfl
theorem mi_X10_want : Cond.instanceMethod yX10_want ∈ wl ∧ Cond.selects yX10_want.cls yX10_want yX10_want ∈ wl := ⟨in_wl (List.mem_append_right _ (List.mem_of_getElem? (i := 1170) (by decide +kernel))) rfl, in_wl (List.mem_of_getElem? (i := 35) (by decide +kernel)) rfl⟩
theorem ks_999 : (Int16.ofInt 999).toInt32 = 999 := by decide
theorem ci_X10_one : CIx yX10_one cX10_one 1 (some .int) 1 := ⟨in_wl (List.mem_append_right _ (List.mem_of_getElem? (i := 1184) (by decide +kernel))) rfl, in_wl (List.mem_append_right _ (List.mem_of_getElem? (i := 12) (by decide +kernel))) rfl, by decide +kernel⟩
theorem ml_X10_198 : Cond.methodLink RX10 198 yX10_one ∈ wl := in_wl (List.mem_append_right _ (List.mem_of_getElem? (i := 1182) (by decide +kernel))) rfl
theorem ms_X10_one : Cond.static yX10_one ∈ wl := in_wl (List.mem_append_right _ (List.mem_of_getElem? (i := 1183) (by decide +kernel))) rfl
theorem ci_X10_takeWord : CIx yX10_takeWord cX10_takeWord 2 none 0 := ⟨in_wl (List.mem_append_right _ (List.mem_of_getElem? (i := 1159) (by decide +kernel))) rfl, in_wl (List.mem_append_right _ (List.mem_of_getElem? (i := 12) (by decide +kernel))) rfl, by decide +kernel⟩
theorem ml_X10_202 : Cond.methodLink RX10 202 yX10_takeWord ∈ wl := in_wl (List.mem_append_right _ (List.mem_of_getElem? (i := 1156) (by decide +kernel))) rfl
theorem mi_X10_takeWord : Cond.instanceMethod yX10_takeWord ∈ wl ∧ Cond.selects yX10_takeWord.cls yX10_takeWord yX10_takeWord ∈ wl := ⟨in_wl (List.mem_append_right _ (List.mem_of_getElem? (i := 1158) (by decide +kernel))) rfl, in_wl (List.mem_of_getElem? (i := 32) (by decide +kernel)) rfl⟩
theorem fo_X10_205 : FO RX10 205 10 32 := ⟨RX10, TX10, 59, rfl, inW10, by decide, in_wl (List.mem_append_right _ (List.mem_of_getElem? (i := 934) (by decide +kernel))) rfl⟩
theorem fo_X10_74 : FO RX10 74 10 35 := ⟨RX10, TX10, 59, rfl, inW10, by decide, in_wl (List.mem_append_right _ (List.mem_of_getElem? (i := 937) (by decide +kernel))) rfl⟩
theorem sh_69 : shp[69]? = some (.inr (4, 0)) := rfl
theorem kb_6 : (Int8.ofInt 6).toInt32 = 6 := by decide
theorem kb_111 : (Int8.ofInt 111).toInt32 = 111 := by decide
theorem kb_102 : (Int8.ofInt 102).toInt32 = 102 := by decide
theorem kb_105 : (Int8.ofInt 105).toInt32 = 105 := by decide
theorem kb_101 : (Int8.ofInt 101).toInt32 = 101 := by decide
theorem ci_X10_isWord : CIx yX10_isWord cX10_isWord 10 (some .boolean) 7 := ⟨in_wl (List.mem_append_right _ (List.mem_of_getElem? (i := 1167) (by decide +kernel))) rfl, in_wl (List.mem_append_right _ (List.mem_of_getElem? (i := 12) (by decide +kernel))) rfl, by decide +kernel⟩
theorem ml_X10_208 : Cond.methodLink RX10 208 yX10_isWord ∈ wl := in_wl (List.mem_append_right _ (List.mem_of_getElem? (i := 1164) (by decide +kernel))) rfl
theorem mi_X10_isWord : Cond.instanceMethod yX10_isWord ∈ wl ∧ Cond.selects yX10_isWord.cls yX10_isWord yX10_isWord ∈ wl := ⟨in_wl (List.mem_append_right _ (List.mem_of_getElem? (i := 1166) (by decide +kernel))) rfl, in_wl (List.mem_of_getElem? (i := 34) (by decide +kernel)) rfl⟩
theorem fo_X10_71 : FO RX10 71 10 34 := ⟨RX10, TX10, 59, rfl, inW10, by decide, in_wl (List.mem_append_right _ (List.mem_of_getElem? (i := 936) (by decide +kernel))) rfl⟩
theorem ci_X10_takeNumber : CIx yX10_takeNumber cX10_takeNumber 6 (some .int) 2 := ⟨in_wl (List.mem_append_right _ (List.mem_of_getElem? (i := 1175) (by decide +kernel))) rfl, in_wl (List.mem_append_right _ (List.mem_of_getElem? (i := 12) (by decide +kernel))) rfl, by decide +kernel⟩
theorem ml_X10_212 : Cond.methodLink RX10 212 yX10_takeNumber ∈ wl := in_wl (List.mem_append_right _ (List.mem_of_getElem? (i := 1172) (by decide +kernel))) rfl
theorem mi_X10_takeNumber : Cond.instanceMethod yX10_takeNumber ∈ wl ∧ Cond.selects yX10_takeNumber.cls yX10_takeNumber yX10_takeNumber ∈ wl := ⟨in_wl (List.mem_append_right _ (List.mem_of_getElem? (i := 1174) (by decide +kernel))) rfl, in_wl (List.mem_of_getElem? (i := 36) (by decide +kernel)) rfl⟩
theorem sh_68 : shp[68]? = some (.inr (4, 0)) := rfl
theorem fo_X10_77 : FO RX10 77 10 36 := ⟨RX10, TX10, 59, rfl, inW10, by decide, in_wl (List.mem_append_right _ (List.mem_of_getElem? (i := 938) (by decide +kernel))) rfl⟩
theorem sh_70 : shp[70]? = some (.inr (4, 0)) := rfl
theorem fo_X10_215 : FO RX10 215 10 33 := ⟨RX10, TX10, 59, rfl, inW10, by decide, in_wl (List.mem_append_right _ (List.mem_of_getElem? (i := 935) (by decide +kernel))) rfl⟩
theorem fp_10_32 : FP 10 32 .int := ⟨RX10, TX10, 59, tyX10, rfl, tyX10_ok, nmX10, rfl, by decide +kernel⟩
theorem ci_X10_takeName : CIx yX10_takeName cX10_takeName 4 none 0 := ⟨in_wl (List.mem_append_right _ (List.mem_of_getElem? (i := 1192) (by decide +kernel))) rfl, in_wl (List.mem_append_right _ (List.mem_of_getElem? (i := 12) (by decide +kernel))) rfl, by decide +kernel⟩
theorem ml_X10_222 : Cond.methodLink RX10 222 yX10_takeName ∈ wl := in_wl (List.mem_append_right _ (List.mem_of_getElem? (i := 1189) (by decide +kernel))) rfl
theorem mi_X10_takeName : Cond.instanceMethod yX10_takeName ∈ wl ∧ Cond.selects yX10_takeName.cls yX10_takeName yX10_takeName ∈ wl := ⟨in_wl (List.mem_append_right _ (List.mem_of_getElem? (i := 1191) (by decide +kernel))) rfl, in_wl (List.mem_of_getElem? (i := 39) (by decide +kernel)) rfl⟩
theorem ci_X10_takeSign : CIx yX10_takeSign cX10_takeSign 3 none 1 := ⟨in_wl (List.mem_append_right _ (List.mem_of_getElem? (i := 1181) (by decide +kernel))) rfl, in_wl (List.mem_append_right _ (List.mem_of_getElem? (i := 12) (by decide +kernel))) rfl, by decide +kernel⟩
theorem ml_X10_218 : Cond.methodLink RX10 218 yX10_takeSign ∈ wl := in_wl (List.mem_append_right _ (List.mem_of_getElem? (i := 1178) (by decide +kernel))) rfl
theorem mi_X10_takeSign : Cond.instanceMethod yX10_takeSign ∈ wl ∧ Cond.selects yX10_takeSign.cls yX10_takeSign yX10_takeSign ∈ wl := ⟨in_wl (List.mem_append_right _ (List.mem_of_getElem? (i := 1180) (by decide +kernel))) rfl, in_wl (List.mem_of_getElem? (i := 37) (by decide +kernel)) rfl⟩
theorem fp_10_33 : FP 10 33 .int := ⟨RX10, TX10, 59, tyX10, rfl, tyX10_ok, nmX10, rfl, by decide +kernel⟩
theorem kb_100 : (Int8.ofInt 100).toInt32 = 100 := by decide
theorem kb_121 : (Int8.ofInt 121).toInt32 = 121 := by decide
theorem kb_117 : (Int8.ofInt 117).toInt32 = 117 := by decide
theorem kb_110 : (Int8.ofInt 110).toInt32 = 110 := by decide
theorem kb_116 : (Int8.ofInt 116).toInt32 = 116 := by decide
theorem ci_X10_takePlace : CIx yX10_takePlace cX10_takePlace 2 none 0 := ⟨in_wl (List.mem_append_right _ (List.mem_of_getElem? (i := 1188) (by decide +kernel))) rfl, in_wl (List.mem_append_right _ (List.mem_of_getElem? (i := 12) (by decide +kernel))) rfl, by decide +kernel⟩
theorem ml_X10_225 : Cond.methodLink RX10 225 yX10_takePlace ∈ wl := in_wl (List.mem_append_right _ (List.mem_of_getElem? (i := 1185) (by decide +kernel))) rfl
theorem mi_X10_takePlace : Cond.instanceMethod yX10_takePlace ∈ wl ∧ Cond.selects yX10_takePlace.cls yX10_takePlace yX10_takePlace ∈ wl := ⟨in_wl (List.mem_append_right _ (List.mem_of_getElem? (i := 1187) (by decide +kernel))) rfl, in_wl (List.mem_of_getElem? (i := 38) (by decide +kernel)) rfl⟩
theorem fo_X10_37 : FO RX10 37 10 14 := ⟨RX10, TX10, 59, rfl, inW10, by decide, in_wl (List.mem_append_right _ (List.mem_of_getElem? (i := 916) (by decide +kernel))) rfl⟩
theorem sh_58 : shp[58]? = some (.inr (8, 0)) := rfl
theorem fo_X10_40 : FO RX10 40 10 15 := ⟨RX10, TX10, 59, rfl, inW10, by decide, in_wl (List.mem_append_right _ (List.mem_of_getElem? (i := 917) (by decide +kernel))) rfl⟩
theorem sh_59 : shp[59]? = some (.inr (8, 0)) := rfl
theorem fp_10_13 : FP 10 13 .int := ⟨RX10, TX10, 59, tyX10, rfl, tyX10_ok, nmX10, rfl, by decide +kernel⟩
theorem fo_X10_43 : FO RX10 43 10 17 := ⟨RX10, TX10, 59, rfl, inW10, by decide, in_wl (List.mem_append_right _ (List.mem_of_getElem? (i := 919) (by decide +kernel))) rfl⟩
theorem sh_60 : shp[60]? = some (.inr (32, 0)) := rfl
theorem fo_X10_46 : FO RX10 46 10 18 := ⟨RX10, TX10, 59, rfl, inW10, by decide, in_wl (List.mem_append_right _ (List.mem_of_getElem? (i := 920) (by decide +kernel))) rfl⟩
theorem sh_61 : shp[61]? = some (.inr (32, 0)) := rfl
theorem fo_X10_49 : FO RX10 49 10 19 := ⟨RX10, TX10, 59, rfl, inW10, by decide, in_wl (List.mem_append_right _ (List.mem_of_getElem? (i := 921) (by decide +kernel))) rfl⟩
theorem sh_62 : shp[62]? = some (.inr (32, 0)) := rfl
theorem fo_X10_55 : FO RX10 55 10 21 := ⟨RX10, TX10, 59, rfl, inW10, by decide, in_wl (List.mem_append_right _ (List.mem_of_getElem? (i := 923) (by decide +kernel))) rfl⟩
theorem sh_64 : shp[64]? = some (.inr (32, 0)) := rfl
theorem fo_X10_52 : FO RX10 52 10 20 := ⟨RX10, TX10, 59, rfl, inW10, by decide, in_wl (List.mem_append_right _ (List.mem_of_getElem? (i := 922) (by decide +kernel))) rfl⟩
theorem sh_63 : shp[63]? = some (.inr (32, 0)) := rfl
theorem fp_10_16 : FP 10 16 .int := ⟨RX10, TX10, 59, tyX10, rfl, tyX10_ok, nmX10, rfl, by decide +kernel⟩
theorem fo_X10_58 : FO RX10 58 10 23 := ⟨RX10, TX10, 59, rfl, inW10, by decide, in_wl (List.mem_append_right _ (List.mem_of_getElem? (i := 925) (by decide +kernel))) rfl⟩
theorem sh_65 : shp[65]? = some (.inr (10, 0)) := rfl
theorem fp_10_22 : FP 10 22 .int := ⟨RX10, TX10, 59, tyX10, rfl, tyX10_ok, nmX10, rfl, by decide +kernel⟩
theorem ci_X10_wideAt : CIx yX10_wideAt cX10_wideAt 2 (some .int) 1 := ⟨in_wl (List.mem_append_right _ (List.mem_of_getElem? (i := 1204) (by decide +kernel))) rfl, in_wl (List.mem_append_right _ (List.mem_of_getElem? (i := 12) (by decide +kernel))) rfl, by decide +kernel⟩
theorem ml_X10_228 : Cond.methodLink RX10 228 yX10_wideAt ∈ wl := in_wl (List.mem_append_right _ (List.mem_of_getElem? (i := 1201) (by decide +kernel))) rfl
theorem mi_X10_wideAt : Cond.instanceMethod yX10_wideAt ∈ wl ∧ Cond.selects yX10_wideAt.cls yX10_wideAt yX10_wideAt ∈ wl := ⟨in_wl (List.mem_append_right _ (List.mem_of_getElem? (i := 1203) (by decide +kernel))) rfl, in_wl (List.mem_of_getElem? (i := 40) (by decide +kernel)) rfl⟩
theorem ci_X10_noBar : CIx yX10_noBar cX10_noBar 2 (some .boolean) 1 := ⟨in_wl (List.mem_append_right _ (List.mem_of_getElem? (i := 1212) (by decide +kernel))) rfl, in_wl (List.mem_append_right _ (List.mem_of_getElem? (i := 12) (by decide +kernel))) rfl, by decide +kernel⟩
theorem ml_X10_231 : Cond.methodLink RX10 231 yX10_noBar ∈ wl := in_wl (List.mem_append_right _ (List.mem_of_getElem? (i := 1209) (by decide +kernel))) rfl
theorem mi_X10_noBar : Cond.instanceMethod yX10_noBar ∈ wl ∧ Cond.selects yX10_noBar.cls yX10_noBar yX10_noBar ∈ wl := ⟨in_wl (List.mem_append_right _ (List.mem_of_getElem? (i := 1211) (by decide +kernel))) rfl, in_wl (List.mem_of_getElem? (i := 41) (by decide +kernel)) rfl⟩
theorem fo_X10_61 : FO RX10 61 10 25 := ⟨RX10, TX10, 59, rfl, inW10, by decide, in_wl (List.mem_append_right _ (List.mem_of_getElem? (i := 927) (by decide +kernel))) rfl⟩
theorem sh_66 : shp[66]? = some (.inr (10, 0)) := rfl
theorem fo_X10_64 : FO RX10 64 10 26 := ⟨RX10, TX10, 59, rfl, inW10, by decide, in_wl (List.mem_append_right _ (List.mem_of_getElem? (i := 928) (by decide +kernel))) rfl⟩
theorem sh_67 : shp[67]? = some (.inr (10, 0)) := rfl
theorem fp_10_24 : FP 10 24 .int := ⟨RX10, TX10, 59, tyX10, rfl, tyX10_ok, nmX10, rfl, by decide +kernel⟩
theorem fo_X10_234 : FO RX10 234 10 46 := ⟨RX10, TX10, 59, rfl, inW10, by decide, in_wl (List.mem_append_right _ (List.mem_of_getElem? (i := 948) (by decide +kernel))) rfl⟩
theorem fp_10_46 : FP 10 46 .int := ⟨RX10, TX10, 59, tyX10, rfl, tyX10_ok, nmX10, rfl, by decide +kernel⟩
theorem fo_X10_89 : FO RX10 89 10 45 := ⟨RX10, TX10, 59, rfl, inW10, by decide, in_wl (List.mem_append_right _ (List.mem_of_getElem? (i := 947) (by decide +kernel))) rfl⟩
theorem sh_74 : shp[74]? = some (.inr (8, 0)) := rfl
theorem fo_X10_237 : FO RX10 237 10 38 := ⟨RX10, TX10, 59, rfl, inW10, by decide, in_wl (List.mem_append_right _ (List.mem_of_getElem? (i := 940) (by decide +kernel))) rfl⟩
theorem fo_X10_240 : FO RX10 240 10 37 := ⟨RX10, TX10, 59, rfl, inW10, by decide, in_wl (List.mem_append_right _ (List.mem_of_getElem? (i := 939) (by decide +kernel))) rfl⟩
theorem fp_10_37 : FP 10 37 .int := ⟨RX10, TX10, 59, tyX10, rfl, tyX10_ok, nmX10, rfl, by decide +kernel⟩
theorem fp_10_38 : FP 10 38 .int := ⟨RX10, TX10, 59, tyX10, rfl, tyX10_ok, nmX10, rfl, by decide +kernel⟩
theorem fo_X10_243 : FO RX10 243 10 39 := ⟨RX10, TX10, 59, rfl, inW10, by decide, in_wl (List.mem_append_right _ (List.mem_of_getElem? (i := 941) (by decide +kernel))) rfl⟩
theorem fp_10_39 : FP 10 39 .int := ⟨RX10, TX10, 59, tyX10, rfl, tyX10_ok, nmX10, rfl, by decide +kernel⟩
theorem fo_X10_246 : FO RX10 246 10 41 := ⟨RX10, TX10, 59, rfl, inW10, by decide, in_wl (List.mem_append_right _ (List.mem_of_getElem? (i := 943) (by decide +kernel))) rfl⟩
theorem fp_10_41 : FP 10 41 .int := ⟨RX10, TX10, 59, tyX10, rfl, tyX10_ok, nmX10, rfl, by decide +kernel⟩
theorem fo_X10_249 : FO RX10 249 10 53 := ⟨RX10, TX10, 59, rfl, inW10, by decide, in_wl (List.mem_append_right _ (List.mem_of_getElem? (i := 955) (by decide +kernel))) rfl⟩
theorem fp_10_53 : FP 10 53 .int := ⟨RX10, TX10, 59, tyX10, rfl, tyX10_ok, nmX10, rfl, by decide +kernel⟩
theorem fo_X10_252 : FO RX10 252 10 54 := ⟨RX10, TX10, 59, rfl, inW10, by decide, in_wl (List.mem_append_right _ (List.mem_of_getElem? (i := 956) (by decide +kernel))) rfl⟩
theorem fp_10_54 : FP 10 54 .int := ⟨RX10, TX10, 59, tyX10, rfl, tyX10_ok, nmX10, rfl, by decide +kernel⟩
theorem fo_X10_80 : FO RX10 80 10 40 := ⟨RX10, TX10, 59, rfl, inW10, by decide, in_wl (List.mem_append_right _ (List.mem_of_getElem? (i := 942) (by decide +kernel))) rfl⟩
theorem sh_71 : shp[71]? = some (.inr (10, 0)) := rfl
theorem fo_X10_99 : FO RX10 99 10 56 := ⟨RX10, TX10, 59, rfl, inW10, by decide, in_wl (List.mem_append_right _ (List.mem_of_getElem? (i := 958) (by decide +kernel))) rfl⟩
theorem sh_77 : shp[77]? = some (.inr (8, 0)) := rfl
theorem ci_X10_isBarred : CIx yX10_isBarred cX10_isBarred 4 (some .boolean) 1 := ⟨in_wl (List.mem_append_right _ (List.mem_of_getElem? (i := 1236) (by decide +kernel))) rfl, in_wl (List.mem_append_right _ (List.mem_of_getElem? (i := 12) (by decide +kernel))) rfl, by decide +kernel⟩
theorem ml_X10_255 : Cond.methodLink RX10 255 yX10_isBarred ∈ wl := in_wl (List.mem_append_right _ (List.mem_of_getElem? (i := 1233) (by decide +kernel))) rfl
theorem mi_X10_isBarred : Cond.instanceMethod yX10_isBarred ∈ wl ∧ Cond.selects yX10_isBarred.cls yX10_isBarred yX10_isBarred ∈ wl := ⟨in_wl (List.mem_append_right _ (List.mem_of_getElem? (i := 1235) (by decide +kernel))) rfl, in_wl (List.mem_of_getElem? (i := 46) (by decide +kernel)) rfl⟩
theorem fo_X10_83 : FO RX10 83 10 42 := ⟨RX10, TX10, 59, rfl, inW10, by decide, in_wl (List.mem_append_right _ (List.mem_of_getElem? (i := 944) (by decide +kernel))) rfl⟩
theorem sh_72 : shp[72]? = some (.inr (20, 0)) := rfl
theorem fo_X10_86 : FO RX10 86 10 44 := ⟨RX10, TX10, 59, rfl, inW10, by decide, in_wl (List.mem_append_right _ (List.mem_of_getElem? (i := 946) (by decide +kernel))) rfl⟩
theorem sh_73 : shp[73]? = some (.inr (20, 0)) := rfl
theorem ci_X10_fitsAt : CIx yX10_fitsAt cX10_fitsAt 4 (some .boolean) 2 := ⟨in_wl (List.mem_append_right _ (List.mem_of_getElem? (i := 1248) (by decide +kernel))) rfl, in_wl (List.mem_append_right _ (List.mem_of_getElem? (i := 12) (by decide +kernel))) rfl, by decide +kernel⟩
theorem ml_X10_258 : Cond.methodLink RX10 258 yX10_fitsAt ∈ wl := in_wl (List.mem_append_right _ (List.mem_of_getElem? (i := 1245) (by decide +kernel))) rfl
theorem mi_X10_fitsAt : Cond.instanceMethod yX10_fitsAt ∈ wl ∧ Cond.selects yX10_fitsAt.cls yX10_fitsAt yX10_fitsAt ∈ wl := ⟨in_wl (List.mem_append_right _ (List.mem_of_getElem? (i := 1247) (by decide +kernel))) rfl, in_wl (List.mem_of_getElem? (i := 49) (by decide +kernel)) rfl⟩
theorem ci_X10_twinsAgree : CIx yX10_twinsAgree cX10_twinsAgree 9 (some .boolean) 2 := ⟨in_wl (List.mem_append_right _ (List.mem_of_getElem? (i := 1252) (by decide +kernel))) rfl, in_wl (List.mem_append_right _ (List.mem_of_getElem? (i := 12) (by decide +kernel))) rfl, by decide +kernel⟩
theorem ml_X10_262 : Cond.methodLink RX10 262 yX10_twinsAgree ∈ wl := in_wl (List.mem_append_right _ (List.mem_of_getElem? (i := 1249) (by decide +kernel))) rfl
theorem mi_X10_twinsAgree : Cond.instanceMethod yX10_twinsAgree ∈ wl ∧ Cond.selects yX10_twinsAgree.cls yX10_twinsAgree yX10_twinsAgree ∈ wl := ⟨in_wl (List.mem_append_right _ (List.mem_of_getElem? (i := 1251) (by decide +kernel))) rfl, in_wl (List.mem_of_getElem? (i := 50) (by decide +kernel)) rfl⟩
theorem fo_X10_265 : FO RX10 265 10 43 := ⟨RX10, TX10, 59, rfl, inW10, by decide, in_wl (List.mem_append_right _ (List.mem_of_getElem? (i := 945) (by decide +kernel))) rfl⟩
theorem fo_X10_268 : FO RX10 268 10 48 := ⟨RX10, TX10, 59, rfl, inW10, by decide, in_wl (List.mem_append_right _ (List.mem_of_getElem? (i := 950) (by decide +kernel))) rfl⟩
theorem fp_10_48 : FP 10 48 .long := ⟨RX10, TX10, 59, tyX10, rfl, tyX10_ok, nmX10, rfl, by decide +kernel⟩
theorem fo_X10_272 : FO RX10 272 10 51 := ⟨RX10, TX10, 59, rfl, inW10, by decide, in_wl (List.mem_append_right _ (List.mem_of_getElem? (i := 953) (by decide +kernel))) rfl⟩
theorem fp_10_51 : FP 10 51 .int := ⟨RX10, TX10, 59, tyX10, rfl, tyX10_ok, nmX10, rfl, by decide +kernel⟩
theorem fo_X10_275 : FO RX10 275 10 52 := ⟨RX10, TX10, 59, rfl, inW10, by decide, in_wl (List.mem_append_right _ (List.mem_of_getElem? (i := 954) (by decide +kernel))) rfl⟩
theorem fp_10_52 : FP 10 52 .int := ⟨RX10, TX10, 59, tyX10, rfl, tyX10_ok, nmX10, rfl, by decide +kernel⟩
theorem fo_X10_278 : FO RX10 278 10 47 := ⟨RX10, TX10, 59, rfl, inW10, by decide, in_wl (List.mem_append_right _ (List.mem_of_getElem? (i := 949) (by decide +kernel))) rfl⟩
theorem fp_10_47 : FP 10 47 .int := ⟨RX10, TX10, 59, tyX10, rfl, tyX10_ok, nmX10, rfl, by decide +kernel⟩
theorem fo_X10_92 : FO RX10 92 10 49 := ⟨RX10, TX10, 59, rfl, inW10, by decide, in_wl (List.mem_append_right _ (List.mem_of_getElem? (i := 951) (by decide +kernel))) rfl⟩
theorem sh_75 : shp[75]? = some (.inr (20, 0)) := rfl
theorem fo_X10_95 : FO RX10 95 10 50 := ⟨RX10, TX10, 59, rfl, inW10, by decide, in_wl (List.mem_append_right _ (List.mem_of_getElem? (i := 952) (by decide +kernel))) rfl⟩
theorem sh_76 : shp[76]? = some (.inr (200, 1)) := rfl
theorem fo_X10_281 : FO RX10 281 10 55 := ⟨RX10, TX10, 59, rfl, inW10, by decide, in_wl (List.mem_append_right _ (List.mem_of_getElem? (i := 957) (by decide +kernel))) rfl⟩
theorem fp_10_55 : FP 10 55 .int := ⟨RX10, TX10, 59, tyX10, rfl, tyX10_ok, nmX10, rfl, by decide +kernel⟩
theorem ci_X10_findOpen : CIx yX10_findOpen cX10_findOpen 2 none 0 := ⟨in_wl (List.mem_append_right _ (List.mem_of_getElem? (i := 1228) (by decide +kernel))) rfl, in_wl (List.mem_append_right _ (List.mem_of_getElem? (i := 12) (by decide +kernel))) rfl, by decide +kernel⟩
theorem ml_X10_284 : Cond.methodLink RX10 284 yX10_findOpen ∈ wl := in_wl (List.mem_append_right _ (List.mem_of_getElem? (i := 1225) (by decide +kernel))) rfl
theorem mi_X10_findOpen : Cond.instanceMethod yX10_findOpen ∈ wl ∧ Cond.selects yX10_findOpen.cls yX10_findOpen yX10_findOpen ∈ wl := ⟨in_wl (List.mem_append_right _ (List.mem_of_getElem? (i := 1227) (by decide +kernel))) rfl, in_wl (List.mem_of_getElem? (i := 44) (by decide +kernel)) rfl⟩
theorem ci_X10_findShown : CIx yX10_findShown cX10_findShown 2 none 0 := ⟨in_wl (List.mem_append_right _ (List.mem_of_getElem? (i := 1232) (by decide +kernel))) rfl, in_wl (List.mem_append_right _ (List.mem_of_getElem? (i := 12) (by decide +kernel))) rfl, by decide +kernel⟩
theorem ml_X10_287 : Cond.methodLink RX10 287 yX10_findShown ∈ wl := in_wl (List.mem_append_right _ (List.mem_of_getElem? (i := 1229) (by decide +kernel))) rfl
theorem mi_X10_findShown : Cond.instanceMethod yX10_findShown ∈ wl ∧ Cond.selects yX10_findShown.cls yX10_findShown yX10_findShown ∈ wl := ⟨in_wl (List.mem_append_right _ (List.mem_of_getElem? (i := 1231) (by decide +kernel))) rfl, in_wl (List.mem_of_getElem? (i := 45) (by decide +kernel)) rfl⟩
theorem fp_10_43 : FP 10 43 .int := ⟨RX10, TX10, 59, tyX10, rfl, tyX10_ok, nmX10, rfl, by decide +kernel⟩
theorem ci_X10_takeReading : CIx yX10_takeReading cX10_takeReading 5 none 0 := ⟨in_wl (List.mem_append_right _ (List.mem_of_getElem? (i := 1240) (by decide +kernel))) rfl, in_wl (List.mem_append_right _ (List.mem_of_getElem? (i := 12) (by decide +kernel))) rfl, by decide +kernel⟩
theorem ml_X10_290 : Cond.methodLink RX10 290 yX10_takeReading ∈ wl := in_wl (List.mem_append_right _ (List.mem_of_getElem? (i := 1237) (by decide +kernel))) rfl
theorem mi_X10_takeReading : Cond.instanceMethod yX10_takeReading ∈ wl ∧ Cond.selects yX10_takeReading.cls yX10_takeReading yX10_takeReading ∈ wl := ⟨in_wl (List.mem_append_right _ (List.mem_of_getElem? (i := 1239) (by decide +kernel))) rfl, in_wl (List.mem_of_getElem? (i := 47) (by decide +kernel)) rfl⟩
theorem ci_X10_mayGive : CIx yX10_mayGive cX10_mayGive 7 (some .boolean) 2 := ⟨in_wl (List.mem_append_right _ (List.mem_of_getElem? (i := 1244) (by decide +kernel))) rfl, in_wl (List.mem_append_right _ (List.mem_of_getElem? (i := 12) (by decide +kernel))) rfl, by decide +kernel⟩
theorem ml_X10_293 : Cond.methodLink RX10 293 yX10_mayGive ∈ wl := in_wl (List.mem_append_right _ (List.mem_of_getElem? (i := 1241) (by decide +kernel))) rfl
theorem mi_X10_mayGive : Cond.instanceMethod yX10_mayGive ∈ wl ∧ Cond.selects yX10_mayGive.cls yX10_mayGive yX10_mayGive ∈ wl := ⟨in_wl (List.mem_append_right _ (List.mem_of_getElem? (i := 1243) (by decide +kernel))) rfl, in_wl (List.mem_of_getElem? (i := 48) (by decide +kernel)) rfl⟩
theorem ci_X10_begin : CIx yX10_begin cX10_begin 2 none 0 := ⟨in_wl (List.mem_append_right _ (List.mem_of_getElem? (i := 1220) (by decide +kernel))) rfl, in_wl (List.mem_append_right _ (List.mem_of_getElem? (i := 12) (by decide +kernel))) rfl, by decide +kernel⟩
theorem ml_X10_296 : Cond.methodLink RX10 296 yX10_begin ∈ wl := in_wl (List.mem_append_right _ (List.mem_of_getElem? (i := 1217) (by decide +kernel))) rfl
theorem mi_X10_begin : Cond.instanceMethod yX10_begin ∈ wl ∧ Cond.selects yX10_begin.cls yX10_begin yX10_begin ∈ wl := ⟨in_wl (List.mem_append_right _ (List.mem_of_getElem? (i := 1219) (by decide +kernel))) rfl, in_wl (List.mem_of_getElem? (i := 42) (by decide +kernel)) rfl⟩
theorem ci_X10_goThrough : CIx yX10_goThrough cX10_goThrough 3 (some .boolean) 0 := ⟨in_wl (List.mem_append_right _ (List.mem_of_getElem? (i := 1224) (by decide +kernel))) rfl, in_wl (List.mem_append_right _ (List.mem_of_getElem? (i := 12) (by decide +kernel))) rfl, by decide +kernel⟩
theorem ml_X10_299 : Cond.methodLink RX10 299 yX10_goThrough ∈ wl := in_wl (List.mem_append_right _ (List.mem_of_getElem? (i := 1221) (by decide +kernel))) rfl
theorem mi_X10_goThrough : Cond.instanceMethod yX10_goThrough ∈ wl ∧ Cond.selects yX10_goThrough.cls yX10_goThrough yX10_goThrough ∈ wl := ⟨in_wl (List.mem_append_right _ (List.mem_of_getElem? (i := 1223) (by decide +kernel))) rfl, in_wl (List.mem_of_getElem? (i := 43) (by decide +kernel)) rfl⟩
theorem ci_X10_posOf : CIx yX10_posOf cX10_posOf 3 (some .int) 1 := ⟨in_wl (List.mem_append_right _ (List.mem_of_getElem? (i := 1264) (by decide +kernel))) rfl, in_wl (List.mem_append_right _ (List.mem_of_getElem? (i := 12) (by decide +kernel))) rfl, by decide +kernel⟩
theorem ml_X10_303 : Cond.methodLink RX10 303 yX10_posOf ∈ wl := in_wl (List.mem_append_right _ (List.mem_of_getElem? (i := 1261) (by decide +kernel))) rfl
theorem mi_X10_posOf : Cond.instanceMethod yX10_posOf ∈ wl ∧ Cond.selects yX10_posOf.cls yX10_posOf yX10_posOf ∈ wl := ⟨in_wl (List.mem_append_right _ (List.mem_of_getElem? (i := 1263) (by decide +kernel))) rfl, in_wl (List.mem_of_getElem? (i := 51) (by decide +kernel)) rfl⟩
theorem kl_X10_306 : Cond.constantLong RX10 306 (-1001) ∈ wl := in_wl (List.mem_append_right _ (List.mem_of_getElem? (i := 1273) (by decide +kernel))) rfl
theorem ci_X10_gcd : CIx yX10_gcd cX10_gcd 10 (some .long) 2 := ⟨in_wl (List.mem_append_right _ (List.mem_of_getElem? (i := 1279) (by decide +kernel))) rfl, in_wl (List.mem_append_right _ (List.mem_of_getElem? (i := 12) (by decide +kernel))) rfl, by decide +kernel⟩
theorem ml_X10_314 : Cond.methodLink RX10 314 yX10_gcd ∈ wl := in_wl (List.mem_append_right _ (List.mem_of_getElem? (i := 1277) (by decide +kernel))) rfl
theorem ms_X10_gcd : Cond.static yX10_gcd ∈ wl := in_wl (List.mem_append_right _ (List.mem_of_getElem? (i := 1278) (by decide +kernel))) rfl
theorem kl_X10_312 : Cond.constantLong RX10 312 (-1003) ∈ wl := in_wl (List.mem_append_right _ (List.mem_of_getElem? (i := 1276) (by decide +kernel))) rfl
theorem kl_X10_310 : Cond.constantLong RX10 310 (-1005) ∈ wl := in_wl (List.mem_append_right _ (List.mem_of_getElem? (i := 1275) (by decide +kernel))) rfl
theorem kl_X10_308 : Cond.constantLong RX10 308 (-1002) ∈ wl := in_wl (List.mem_append_right _ (List.mem_of_getElem? (i := 1274) (by decide +kernel))) rfl
theorem ci_X10_isShown : CIx yX10_isShown cX10_isShown 4 (some .boolean) 1 := ⟨in_wl (List.mem_append_right _ (List.mem_of_getElem? (i := 1287) (by decide +kernel))) rfl, in_wl (List.mem_append_right _ (List.mem_of_getElem? (i := 12) (by decide +kernel))) rfl, by decide +kernel⟩
theorem ml_X10_318 : Cond.methodLink RX10 318 yX10_isShown ∈ wl := in_wl (List.mem_append_right _ (List.mem_of_getElem? (i := 1284) (by decide +kernel))) rfl
theorem mi_X10_isShown : Cond.instanceMethod yX10_isShown ∈ wl ∧ Cond.selects yX10_isShown.cls yX10_isShown yX10_isShown ∈ wl := ⟨in_wl (List.mem_append_right _ (List.mem_of_getElem? (i := 1286) (by decide +kernel))) rfl, in_wl (List.mem_of_getElem? (i := 52) (by decide +kernel)) rfl⟩
theorem kl_X10_321 : Cond.constantLong RX10 321 3 ∈ wl := in_wl (List.mem_append_right _ (List.mem_of_getElem? (i := 1295) (by decide +kernel))) rfl
theorem ci_X10_isReader : CIx yX10_isReader cX10_isReader 1 (some .boolean) 1 := ⟨in_wl (List.mem_append_right _ (List.mem_of_getElem? (i := 1294) (by decide +kernel))) rfl, in_wl (List.mem_append_right _ (List.mem_of_getElem? (i := 12) (by decide +kernel))) rfl, by decide +kernel⟩
theorem ml_X10_323 : Cond.methodLink RX10 323 yX10_isReader ∈ wl := in_wl (List.mem_append_right _ (List.mem_of_getElem? (i := 1292) (by decide +kernel))) rfl
theorem ms_X10_isReader : Cond.static yX10_isReader ∈ wl := in_wl (List.mem_append_right _ (List.mem_of_getElem? (i := 1293) (by decide +kernel))) rfl
theorem ci_X10_noSet : CIx yX10_noSet cX10_noSet 2 (some .boolean) 1 := ⟨in_wl (List.mem_append_right _ (List.mem_of_getElem? (i := 1299) (by decide +kernel))) rfl, in_wl (List.mem_append_right _ (List.mem_of_getElem? (i := 12) (by decide +kernel))) rfl, by decide +kernel⟩
theorem ml_X10_326 : Cond.methodLink RX10 326 yX10_noSet ∈ wl := in_wl (List.mem_append_right _ (List.mem_of_getElem? (i := 1296) (by decide +kernel))) rfl
theorem mi_X10_noSet : Cond.instanceMethod yX10_noSet ∈ wl ∧ Cond.selects yX10_noSet.cls yX10_noSet yX10_noSet ∈ wl := ⟨in_wl (List.mem_append_right _ (List.mem_of_getElem? (i := 1298) (by decide +kernel))) rfl, in_wl (List.mem_of_getElem? (i := 53) (by decide +kernel)) rfl⟩
theorem fo_X10_102 : FO RX10 102 10 57 := ⟨RX10, TX10, 59, rfl, inW10, by decide, in_wl (List.mem_append_right _ (List.mem_of_getElem? (i := 959) (by decide +kernel))) rfl⟩
theorem sh_78 : shp[78]? = some (.inr (4, 0)) := rfl
theorem fo_X10_105 : FO RX10 105 10 58 := ⟨RX10, TX10, 59, rfl, inW10, by decide, in_wl (List.mem_append_right _ (List.mem_of_getElem? (i := 960) (by decide +kernel))) rfl⟩
theorem sh_79 : shp[79]? = some (.inr (40, 0)) := rfl
theorem kb_m2 : (Int8.ofInt (-2)).toInt32 = (-2) := by decide
theorem ci_X10_join : CIx yX10_join cX10_join 5 none 1 := ⟨in_wl (List.mem_append_right _ (List.mem_of_getElem? (i := 1311) (by decide +kernel))) rfl, in_wl (List.mem_append_right _ (List.mem_of_getElem? (i := 12) (by decide +kernel))) rfl, by decide +kernel⟩
theorem ml_X10_329 : Cond.methodLink RX10 329 yX10_join ∈ wl := in_wl (List.mem_append_right _ (List.mem_of_getElem? (i := 1308) (by decide +kernel))) rfl
theorem mi_X10_join : Cond.instanceMethod yX10_join ∈ wl ∧ Cond.selects yX10_join.cls yX10_join yX10_join ∈ wl := ⟨in_wl (List.mem_append_right _ (List.mem_of_getElem? (i := 1310) (by decide +kernel))) rfl, in_wl (List.mem_of_getElem? (i := 54) (by decide +kernel)) rfl⟩
theorem fp_10_10 : FP 10 10 .int := ⟨RX10, TX10, 59, tyX10, rfl, tyX10_ok, nmX10, rfl, by decide +kernel⟩
theorem ci_X10_betrayedNow : CIx yX10_betrayedNow cX10_betrayedNow 3 (some .int) 0 := ⟨in_wl (List.mem_append_right _ (List.mem_of_getElem? (i := 1327) (by decide +kernel))) rfl, in_wl (List.mem_append_right _ (List.mem_of_getElem? (i := 12) (by decide +kernel))) rfl, by decide +kernel⟩
theorem ml_X10_332 : Cond.methodLink RX10 332 yX10_betrayedNow ∈ wl := in_wl (List.mem_append_right _ (List.mem_of_getElem? (i := 1324) (by decide +kernel))) rfl
theorem mi_X10_betrayedNow : Cond.instanceMethod yX10_betrayedNow ∈ wl ∧ Cond.selects yX10_betrayedNow.cls yX10_betrayedNow yX10_betrayedNow ∈ wl := ⟨in_wl (List.mem_append_right _ (List.mem_of_getElem? (i := 1326) (by decide +kernel))) rfl, in_wl (List.mem_of_getElem? (i := 55) (by decide +kernel)) rfl⟩
theorem ci_X10_showsKept : CIx yX10_showsKept cX10_showsKept 4 (some .boolean) 1 := ⟨in_wl (List.mem_append_right _ (List.mem_of_getElem? (i := 1339) (by decide +kernel))) rfl, in_wl (List.mem_append_right _ (List.mem_of_getElem? (i := 12) (by decide +kernel))) rfl, by decide +kernel⟩
theorem ml_X10_335 : Cond.methodLink RX10 335 yX10_showsKept ∈ wl := in_wl (List.mem_append_right _ (List.mem_of_getElem? (i := 1336) (by decide +kernel))) rfl
theorem mi_X10_showsKept : Cond.instanceMethod yX10_showsKept ∈ wl ∧ Cond.selects yX10_showsKept.cls yX10_showsKept yX10_showsKept ∈ wl := ⟨in_wl (List.mem_append_right _ (List.mem_of_getElem? (i := 1338) (by decide +kernel))) rfl, in_wl (List.mem_of_getElem? (i := 57) (by decide +kernel)) rfl⟩
theorem ci_X10_openedBy : CIx yX10_openedBy cX10_openedBy 2 (some .int) 1 := ⟨in_wl (List.mem_append_right _ (List.mem_of_getElem? (i := 1335) (by decide +kernel))) rfl, in_wl (List.mem_append_right _ (List.mem_of_getElem? (i := 12) (by decide +kernel))) rfl, by decide +kernel⟩
theorem ml_X10_338 : Cond.methodLink RX10 338 yX10_openedBy ∈ wl := in_wl (List.mem_append_right _ (List.mem_of_getElem? (i := 1332) (by decide +kernel))) rfl
theorem mi_X10_openedBy : Cond.instanceMethod yX10_openedBy ∈ wl ∧ Cond.selects yX10_openedBy.cls yX10_openedBy yX10_openedBy ∈ wl := ⟨in_wl (List.mem_append_right _ (List.mem_of_getElem? (i := 1334) (by decide +kernel))) rfl, in_wl (List.mem_of_getElem? (i := 56) (by decide +kernel)) rfl⟩
theorem ci_X10_isSafe : CIx yX10_isSafe cX10_isSafe 2 (some .int) 1 := ⟨in_wl (List.mem_append_right _ (List.mem_of_getElem? (i := 1351) (by decide +kernel))) rfl, in_wl (List.mem_append_right _ (List.mem_of_getElem? (i := 12) (by decide +kernel))) rfl, by decide +kernel⟩
theorem ml_X10_341 : Cond.methodLink RX10 341 yX10_isSafe ∈ wl := in_wl (List.mem_append_right _ (List.mem_of_getElem? (i := 1348) (by decide +kernel))) rfl
theorem mi_X10_isSafe : Cond.instanceMethod yX10_isSafe ∈ wl ∧ Cond.selects yX10_isSafe.cls yX10_isSafe yX10_isSafe ∈ wl := ⟨in_wl (List.mem_append_right _ (List.mem_of_getElem? (i := 1350) (by decide +kernel))) rfl, in_wl (List.mem_of_getElem? (i := 58) (by decide +kernel)) rfl⟩
