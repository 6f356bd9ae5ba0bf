/-! 09.words: the words that the rows use, and the methods' (written by gen_code.py) -/
theorem pt_mem_at {big ws : List Cond} (ps : List Nat) (h : ws = ps.filterMap (fun i => big[i]?)) : ∀ w ∈ ws, w ∈ big := by
  intro w hw
  rw [h] at hw
  obtain ⟨i, -, hi⟩ := List.mem_filterMap.mp hw
  exact List.mem_of_getElem? hi
theorem pt_in_of {ws : List Cond} (h1 : ∀ w ∈ ws, w ∈ lw_tbl) (h2 : ws.all goodWord = true) : ∀ w ∈ ws, w ∈ pt_tbl := fun w hw => pt_tbl_in (h1 w hw) (List.all_eq_true.mp h2 w hw)
theorem in_0 : ∀ w ∈ u_ws RX0 TX0 3, w ∈ pt_tbl := pt_in_of (pt_mem_at [176, 178, 180] (by decide +kernel)) (by decide +kernel)
theorem in_1 : ∀ w ∈ u_ws RX1 TX1 2, w ∈ pt_tbl := pt_in_of (pt_mem_at [193, 195] (by decide +kernel)) (by decide +kernel)
theorem in_2 : ∀ w ∈ u_ws RX2 TX2 3, w ∈ pt_tbl := pt_in_of (pt_mem_at [207, 209, 211] (by decide +kernel)) (by decide +kernel)
theorem in_3 : ∀ w ∈ u_ws RX3 TX3 4, w ∈ pt_tbl := pt_in_of (pt_mem_at [227, 229, 231, 233] (by decide +kernel)) (by decide +kernel)
theorem in_4 : ∀ w ∈ u_ws RX4 TX4 6, w ∈ pt_tbl := pt_in_of (pt_mem_at [115, 117, 119, 121, 123, 125] (by decide +kernel)) (by decide +kernel)
theorem in_5 : ∀ w ∈ u_ws RX5 TX5 9, w ∈ pt_tbl := pt_in_of (pt_mem_at [142, 144, 146, 148, 150, 152, 154, 156, 158] (by decide +kernel)) (by decide +kernel)
theorem in_6 : ∀ w ∈ u_ws RX6 TX6 13, w ∈ pt_tbl := pt_in_of (pt_mem_at [249, 251, 253, 255, 257, 259, 261, 263, 265, 267, 269, 271, 273] (by decide +kernel)) (by decide +kernel)
theorem in_7 : ∀ w ∈ u_ws RX7 TX7 29, w ∈ pt_tbl := pt_in_of (pt_mem_at [758, 760, 762, 764, 766, 768, 770, 772, 774, 776, 778, 780, 782, 784, 786, 788, 790, 792, 794, 796, 798, 800, 802, 804, 806, 808, 810, 812, 814] (by decide +kernel)) (by decide +kernel)
theorem wd_nat : Cond.native arraycopyName ∈ pt_tbl := pt_tbl_in (List.mem_of_getElem? (i := 318) (by decide +kernel)) rfl
theorem wd_sta : Cond.static arraycopyName ∈ pt_tbl := pt_tbl_in (List.mem_of_getElem? (i := 317) (by decide +kernel)) rfl
theorem wd_sys : Cond.initialized "java/lang/System" ∈ pt_tbl := pt_tbl_in (List.mem_of_getElem? (i := 66) (by decide +kernel)) rfl
theorem wd_mi : Cond.initialized "java/lang/Math" ∈ pt_tbl := pt_tbl_in (List.mem_of_getElem? (i := 71) (by decide +kernel)) rfl
theorem wd_ms_max : Cond.static Lib.Math.max.name ∈ pt_tbl := pt_tbl_in (List.mem_of_getElem? (i := 503) (by decide +kernel)) rfl
theorem wd_mc_max : Cond.code Lib.Math.max.name Lib.Math.max.code 2 (some .int) ∈ pt_tbl := pt_tbl_in (List.mem_of_getElem? (i := 504) (by decide +kernel)) rfl
theorem wd_ms_min : Cond.static Lib.Math.min.name ∈ pt_tbl := pt_tbl_in (List.mem_of_getElem? (i := 488) (by decide +kernel)) rfl
theorem wd_mc_min : Cond.code Lib.Math.min.name Lib.Math.min.code 2 (some .int) ∈ pt_tbl := pt_tbl_in (List.mem_of_getElem? (i := 489) (by decide +kernel)) rfl
theorem wd_ms_abs : Cond.static Lib.Math.abs.name ∈ pt_tbl := pt_tbl_in (List.mem_of_getElem? (i := 527) (by decide +kernel)) rfl
theorem wd_mc_abs : Cond.code Lib.Math.abs.name Lib.Math.abs.code 1 (some .int) ∈ pt_tbl := pt_tbl_in (List.mem_of_getElem? (i := 528) (by decide +kernel)) rfl
theorem wd_0 : Cond.fieldLink RX0 20 (TX0 2).1 (TX0 2).2.1 (TX0 2).2.2.1 ∈ pt_tbl := pt_tbl_in (List.mem_of_getElem? (i := 175) (by decide +kernel)) rfl
theorem wd_1 : Cond.fieldLink RX0 15 (TX0 1).1 (TX0 1).2.1 (TX0 1).2.2.1 ∈ pt_tbl := pt_tbl_in (List.mem_of_getElem? (i := 174) (by decide +kernel)) rfl
theorem wd_2 : Cond.methodLink RX0 25 yX4_become ∈ pt_tbl := pt_tbl_in (List.mem_of_getElem? (i := 482) (by decide +kernel)) rfl
theorem wd_3 : Cond.initialized RX4 ∈ pt_tbl := pt_tbl_in (List.mem_of_getElem? (i := 59) (by decide +kernel)) rfl
theorem cw_21 : pt_cW mm_21 1 := ⟨(List.mem_of_getElem? (i := 452) (by decide +kernel)), wd_3, ⟨by decide +kernel, by decide +kernel, by decide +kernel⟩, by decide⟩
theorem wd_4 : Cond.instanceMethod yX4_become ∈ pt_tbl := pt_tbl_in (List.mem_of_getElem? (i := 450) (by decide +kernel)) rfl
theorem wd_5 : Cond.selects RX4 yX4_become yX4_become ∈ pt_tbl := pt_tbl_in (List.mem_of_getElem? (i := 451) (by decide +kernel)) rfl
theorem iv_21 : Cond.instanceMethod yX4_become ∈ pt_tbl ∧ Cond.selects RX4 yX4_become yX4_become ∈ pt_tbl := ⟨wd_4, wd_5⟩
theorem wd_6 : Cond.fieldLink RX0 9 (TX0 0).1 (TX0 0).2.1 (TX0 0).2.2.1 ∈ pt_tbl := pt_tbl_in (List.mem_of_getElem? (i := 172) (by decide +kernel)) rfl
theorem wd_7 : Cond.fieldLink RX1 9 (TX1 0).1 (TX1 0).2.1 (TX1 0).2.2.1 ∈ pt_tbl := pt_tbl_in (List.mem_of_getElem? (i := 189) (by decide +kernel)) rfl
theorem wd_8 : Cond.methodLink RX1 19 yX1_askAnew ∈ pt_tbl := pt_tbl_in (List.mem_of_getElem? (i := 681) (by decide +kernel)) rfl
theorem wd_9 : Cond.initialized RX1 ∈ pt_tbl := pt_tbl_in (List.mem_of_getElem? (i := 61) (by decide +kernel)) rfl
theorem cw_4 : pt_cW mm_4 4 := ⟨(List.mem_of_getElem? (i := 684) (by decide +kernel)), wd_9, ⟨by decide +kernel, by decide +kernel, by decide +kernel⟩, by decide⟩
theorem wd_10 : Cond.instanceMethod yX1_askAnew ∈ pt_tbl := pt_tbl_in (List.mem_of_getElem? (i := 683) (by decide +kernel)) rfl
theorem wd_11 : Cond.selects RX1 yX1_askAnew yX1_askAnew ∈ pt_tbl := pt_tbl_in (List.mem_of_getElem? (i := 17) (by decide +kernel)) rfl
theorem iv_4 : Cond.instanceMethod yX1_askAnew ∈ pt_tbl ∧ Cond.selects RX1 yX1_askAnew yX1_askAnew ∈ pt_tbl := ⟨wd_10, wd_11⟩
theorem wd_12 : Cond.fieldLink RX1 23 (TX4 4).1 (TX4 4).2.1 (TX4 4).2.2.1 ∈ pt_tbl := pt_tbl_in (List.mem_of_getElem? (i := 107) (by decide +kernel)) rfl
theorem wd_13 : Cond.methodLink RX1 28 yX1_bodyFor ∈ pt_tbl := pt_tbl_in (List.mem_of_getElem? (i := 685) (by decide +kernel)) rfl
theorem cw_5 : pt_cW mm_5 2 := ⟨(List.mem_of_getElem? (i := 688) (by decide +kernel)), wd_9, ⟨by decide +kernel, by decide +kernel, by decide +kernel⟩, by decide⟩
theorem wd_14 : Cond.instanceMethod yX1_bodyFor ∈ pt_tbl := pt_tbl_in (List.mem_of_getElem? (i := 687) (by decide +kernel)) rfl
theorem wd_15 : Cond.selects RX1 yX1_bodyFor yX1_bodyFor ∈ pt_tbl := pt_tbl_in (List.mem_of_getElem? (i := 18) (by decide +kernel)) rfl
theorem iv_5 : Cond.instanceMethod yX1_bodyFor ∈ pt_tbl ∧ Cond.selects RX1 yX1_bodyFor yX1_bodyFor ∈ pt_tbl := ⟨wd_14, wd_15⟩
theorem wd_16 : Cond.methodLink RX1 32 yX1_gives ∈ pt_tbl := pt_tbl_in (List.mem_of_getElem? (i := 694) (by decide +kernel)) rfl
theorem cw_6 : pt_cW mm_6 4 := ⟨(List.mem_of_getElem? (i := 697) (by decide +kernel)), wd_9, ⟨by decide +kernel, by decide +kernel, by decide +kernel⟩, by decide⟩
theorem wd_17 : Cond.instanceMethod yX1_gives ∈ pt_tbl := pt_tbl_in (List.mem_of_getElem? (i := 696) (by decide +kernel)) rfl
theorem wd_18 : Cond.selects RX1 yX1_gives yX1_gives ∈ pt_tbl := pt_tbl_in (List.mem_of_getElem? (i := 19) (by decide +kernel)) rfl
theorem iv_6 : Cond.instanceMethod yX1_gives ∈ pt_tbl ∧ Cond.selects RX1 yX1_gives yX1_gives ∈ pt_tbl := ⟨wd_17, wd_18⟩
theorem wd_19 : Cond.methodLink RX1 44 yX1_leave ∈ pt_tbl := pt_tbl_in (List.mem_of_getElem? (i := 698) (by decide +kernel)) rfl
theorem cw_7 : pt_cW mm_7 1 := ⟨(List.mem_of_getElem? (i := 701) (by decide +kernel)), wd_9, ⟨by decide +kernel, by decide +kernel, by decide +kernel⟩, by decide⟩
theorem wd_20 : Cond.instanceMethod yX1_leave ∈ pt_tbl := pt_tbl_in (List.mem_of_getElem? (i := 700) (by decide +kernel)) rfl
theorem wd_21 : Cond.selects RX1 yX1_leave yX1_leave ∈ pt_tbl := pt_tbl_in (List.mem_of_getElem? (i := 20) (by decide +kernel)) rfl
theorem iv_7 : Cond.instanceMethod yX1_leave ∈ pt_tbl ∧ Cond.selects RX1 yX1_leave yX1_leave ∈ pt_tbl := ⟨wd_20, wd_21⟩
theorem wd_22 : Cond.methodLink RX1 48 yX4_usedInAll ∈ pt_tbl := pt_tbl_in (List.mem_of_getElem? (i := 702) (by decide +kernel)) rfl
theorem cw_27 : pt_cW mm_27 1 := ⟨(List.mem_of_getElem? (i := 558) (by decide +kernel)), wd_3, ⟨by decide +kernel, by decide +kernel, by decide +kernel⟩, by decide⟩
theorem wd_23 : Cond.instanceMethod yX4_usedInAll ∈ pt_tbl := pt_tbl_in (List.mem_of_getElem? (i := 556) (by decide +kernel)) rfl
theorem wd_24 : Cond.selects RX4 yX4_usedInAll yX4_usedInAll ∈ pt_tbl := pt_tbl_in (List.mem_of_getElem? (i := 557) (by decide +kernel)) rfl
theorem iv_27 : Cond.instanceMethod yX4_usedInAll ∈ pt_tbl ∧ Cond.selects RX4 yX4_usedInAll yX4_usedInAll ∈ pt_tbl := ⟨wd_23, wd_24⟩
theorem wd_25 : Cond.fieldLink RX1 52 (TX4 5).1 (TX4 5).2.1 (TX4 5).2.2.1 ∈ pt_tbl := pt_tbl_in (List.mem_of_getElem? (i := 113) (by decide +kernel)) rfl
theorem wd_26 : Cond.fieldLink RX1 15 (TX1 1).1 (TX1 1).2.1 (TX1 1).2.2.1 ∈ pt_tbl := pt_tbl_in (List.mem_of_getElem? (i := 191) (by decide +kernel)) rfl
theorem wd_27 : Cond.fieldLink RX2 22 (TX4 4).1 (TX4 4).2.1 (TX4 4).2.2.1 ∈ pt_tbl := pt_tbl_in (List.mem_of_getElem? (i := 106) (by decide +kernel)) rfl
theorem wd_28 : Cond.fieldLink RX2 9 (TX2 0).1 (TX2 0).2.1 (TX2 0).2.2.1 ∈ pt_tbl := pt_tbl_in (List.mem_of_getElem? (i := 204) (by decide +kernel)) rfl
theorem wd_29 : Cond.fieldLink RX2 27 (TX4 5).1 (TX4 5).2.1 (TX4 5).2.2.1 ∈ pt_tbl := pt_tbl_in (List.mem_of_getElem? (i := 111) (by decide +kernel)) rfl
theorem wd_30 : Cond.fieldLink RX2 15 (TX2 1).1 (TX2 1).2.1 (TX2 1).2.2.1 ∈ pt_tbl := pt_tbl_in (List.mem_of_getElem? (i := 205) (by decide +kernel)) rfl
theorem wd_31 : Cond.fieldLink RX2 18 (TX2 2).1 (TX2 2).2.1 (TX2 2).2.2.1 ∈ pt_tbl := pt_tbl_in (List.mem_of_getElem? (i := 206) (by decide +kernel)) rfl
theorem wd_32 : Cond.methodLink RX2 30 arraycopyName ∈ pt_tbl := pt_tbl_in (List.mem_of_getElem? (i := 522) (by decide +kernel)) rfl
theorem wd_33 : Cond.methodLink RX2 36 yJ7_fill_53178 ∈ pt_tbl := pt_tbl_in (List.mem_of_getElem? (i := 563) (by decide +kernel)) rfl
theorem wd_34 : Cond.initialized RJ7 ∈ pt_tbl := pt_tbl_in (List.mem_of_getElem? (i := 65) (by decide +kernel)) rfl
theorem cw_170 : pt_cW mm_170 2 := ⟨(List.mem_of_getElem? (i := 295) (by decide +kernel)), wd_34, ⟨by decide +kernel, by decide +kernel, by decide +kernel⟩, by decide⟩
theorem wd_35 : Cond.static yJ7_fill_53178 ∈ pt_tbl := pt_tbl_in (List.mem_of_getElem? (i := 294) (by decide +kernel)) rfl
theorem sv_170 : Cond.static yJ7_fill_53178 ∈ pt_tbl := wd_35
theorem wd_36 : Cond.methodLink RX2 42 Lib.Math.max.name ∈ pt_tbl := pt_tbl_in (List.mem_of_getElem? (i := 541) (by decide +kernel)) rfl
theorem wd_37 : Cond.methodLink RX2 48 yX4_strength ∈ pt_tbl := pt_tbl_in (List.mem_of_getElem? (i := 536) (by decide +kernel)) rfl
theorem cw_25 : pt_cW mm_25 2 := ⟨(List.mem_of_getElem? (i := 486) (by decide +kernel)), wd_3, ⟨by decide +kernel, by decide +kernel, by decide +kernel⟩, by decide⟩
theorem wd_38 : Cond.instanceMethod yX4_strength ∈ pt_tbl := pt_tbl_in (List.mem_of_getElem? (i := 484) (by decide +kernel)) rfl
theorem wd_39 : Cond.selects RX4 yX4_strength yX4_strength ∈ pt_tbl := pt_tbl_in (List.mem_of_getElem? (i := 485) (by decide +kernel)) rfl
theorem iv_25 : Cond.instanceMethod yX4_strength ∈ pt_tbl ∧ Cond.selects RX4 yX4_strength yX4_strength ∈ pt_tbl := ⟨wd_38, wd_39⟩
theorem wd_40 : Cond.methodLink RX2 51 yX2_feels ∈ pt_tbl := pt_tbl_in (List.mem_of_getElem? (i := 537) (by decide +kernel)) rfl
theorem wd_41 : Cond.initialized RX2 ∈ pt_tbl := pt_tbl_in (List.mem_of_getElem? (i := 62) (by decide +kernel)) rfl
theorem cw_11 : pt_cW mm_11 2 := ⟨(List.mem_of_getElem? (i := 540) (by decide +kernel)), wd_41, ⟨by decide +kernel, by decide +kernel, by decide +kernel⟩, by decide⟩
theorem wd_42 : Cond.instanceMethod yX2_feels ∈ pt_tbl := pt_tbl_in (List.mem_of_getElem? (i := 538) (by decide +kernel)) rfl
theorem wd_43 : Cond.selects RX2 yX2_feels yX2_feels ∈ pt_tbl := pt_tbl_in (List.mem_of_getElem? (i := 539) (by decide +kernel)) rfl
theorem iv_11 : Cond.instanceMethod yX2_feels ∈ pt_tbl ∧ Cond.selects RX2 yX2_feels yX2_feels ∈ pt_tbl := ⟨wd_42, wd_43⟩
theorem wd_44 : Cond.methodLink RX2 54 yX2_getsUsedTo ∈ pt_tbl := pt_tbl_in (List.mem_of_getElem? (i := 542) (by decide +kernel)) rfl
theorem cw_15 : pt_cW mm_15 1 := ⟨(List.mem_of_getElem? (i := 545) (by decide +kernel)), wd_41, ⟨by decide +kernel, by decide +kernel, by decide +kernel⟩, by decide⟩
theorem wd_45 : Cond.instanceMethod yX2_getsUsedTo ∈ pt_tbl := pt_tbl_in (List.mem_of_getElem? (i := 543) (by decide +kernel)) rfl
theorem wd_46 : Cond.selects RX2 yX2_getsUsedTo yX2_getsUsedTo ∈ pt_tbl := pt_tbl_in (List.mem_of_getElem? (i := 544) (by decide +kernel)) rfl
theorem iv_15 : Cond.instanceMethod yX2_getsUsedTo ∈ pt_tbl ∧ Cond.selects RX2 yX2_getsUsedTo yX2_getsUsedTo ∈ pt_tbl := ⟨wd_45, wd_46⟩
theorem wd_47 : Cond.methodLink RX2 58 yX2_tasteOn ∈ pt_tbl := pt_tbl_in (List.mem_of_getElem? (i := 594) (by decide +kernel)) rfl
theorem cw_12 : pt_cW mm_12 2 := ⟨(List.mem_of_getElem? (i := 535) (by decide +kernel)), wd_41, ⟨by decide +kernel, by decide +kernel, by decide +kernel⟩, by decide⟩
theorem wd_48 : Cond.instanceMethod yX2_tasteOn ∈ pt_tbl := pt_tbl_in (List.mem_of_getElem? (i := 533) (by decide +kernel)) rfl
theorem wd_49 : Cond.selects RX2 yX2_tasteOn yX2_tasteOn ∈ pt_tbl := pt_tbl_in (List.mem_of_getElem? (i := 534) (by decide +kernel)) rfl
theorem iv_12 : Cond.instanceMethod yX2_tasteOn ∈ pt_tbl ∧ Cond.selects RX2 yX2_tasteOn yX2_tasteOn ∈ pt_tbl := ⟨wd_48, wd_49⟩
theorem wd_50 : Cond.methodLink RX2 62 yX2_swapped ∈ pt_tbl := pt_tbl_in (List.mem_of_getElem? (i := 595) (by decide +kernel)) rfl
theorem cw_14 : pt_cW mm_14 1 := ⟨(List.mem_of_getElem? (i := 598) (by decide +kernel)), wd_41, ⟨by decide +kernel, by decide +kernel, by decide +kernel⟩, by decide⟩
theorem wd_51 : Cond.instanceMethod yX2_swapped ∈ pt_tbl := pt_tbl_in (List.mem_of_getElem? (i := 596) (by decide +kernel)) rfl
theorem wd_52 : Cond.selects RX2 yX2_swapped yX2_swapped ∈ pt_tbl := pt_tbl_in (List.mem_of_getElem? (i := 597) (by decide +kernel)) rfl
theorem iv_14 : Cond.instanceMethod yX2_swapped ∈ pt_tbl ∧ Cond.selects RX2 yX2_swapped yX2_swapped ∈ pt_tbl := ⟨wd_51, wd_52⟩
theorem wd_53 : Cond.methodLink RX2 66 Lib.Math.min.name ∈ pt_tbl := pt_tbl_in (List.mem_of_getElem? (i := 546) (by decide +kernel)) rfl
theorem wd_54 : Cond.fieldLink RX3 9 (TX3 0).1 (TX3 0).2.1 (TX3 0).2.2.1 ∈ pt_tbl := pt_tbl_in (List.mem_of_getElem? (i := 219) (by decide +kernel)) rfl
theorem wd_55 : Cond.fieldLink RX3 15 (TX3 1).1 (TX3 1).2.1 (TX3 1).2.2.1 ∈ pt_tbl := pt_tbl_in (List.mem_of_getElem? (i := 221) (by decide +kernel)) rfl
theorem wd_56 : Cond.fieldLink RX3 19 (TX3 2).1 (TX3 2).2.1 (TX3 2).2.2.1 ∈ pt_tbl := pt_tbl_in (List.mem_of_getElem? (i := 223) (by decide +kernel)) rfl
theorem wd_57 : Cond.fieldLink RX3 22 (TX3 3).1 (TX3 3).2.1 (TX3 3).2.2.1 ∈ pt_tbl := pt_tbl_in (List.mem_of_getElem? (i := 225) (by decide +kernel)) rfl
theorem wd_58 : Cond.methodLink RX3 26 yJ7_fill_53178 ∈ pt_tbl := pt_tbl_in (List.mem_of_getElem? (i := 293) (by decide +kernel)) rfl
theorem wd_59 : Cond.fieldLink RX4 9 (TX4 0).1 (TX4 0).2.1 (TX4 0).2.2.1 ∈ pt_tbl := pt_tbl_in (List.mem_of_getElem? (i := 94) (by decide +kernel)) rfl
theorem wd_60 : Cond.fieldLink RX4 15 (TX4 1).1 (TX4 1).2.1 (TX4 1).2.2.1 ∈ pt_tbl := pt_tbl_in (List.mem_of_getElem? (i := 97) (by decide +kernel)) rfl
theorem wd_61 : Cond.fieldLink RX4 18 (TX4 2).1 (TX4 2).2.1 (TX4 2).2.2.1 ∈ pt_tbl := pt_tbl_in (List.mem_of_getElem? (i := 100) (by decide +kernel)) rfl
theorem wd_62 : Cond.fieldLink RX4 21 (TX4 3).1 (TX4 3).2.1 (TX4 3).2.2.1 ∈ pt_tbl := pt_tbl_in (List.mem_of_getElem? (i := 102) (by decide +kernel)) rfl
theorem wd_63 : Cond.methodLink RX4 31 arraycopyName ∈ pt_tbl := pt_tbl_in (List.mem_of_getElem? (i := 453) (by decide +kernel)) rfl
theorem wd_64 : Cond.fieldLink RX4 25 (TX4 4).1 (TX4 4).2.1 (TX4 4).2.2.1 ∈ pt_tbl := pt_tbl_in (List.mem_of_getElem? (i := 105) (by decide +kernel)) rfl
theorem wd_65 : Cond.fieldLink RX4 28 (TX4 5).1 (TX4 5).2.1 (TX4 5).2.2.1 ∈ pt_tbl := pt_tbl_in (List.mem_of_getElem? (i := 110) (by decide +kernel)) rfl
theorem wd_66 : Cond.methodLink RX4 37 yX4_hasWall ∈ pt_tbl := pt_tbl_in (List.mem_of_getElem? (i := 471) (by decide +kernel)) rfl
theorem cw_22 : pt_cW mm_22 1 := ⟨(List.mem_of_getElem? (i := 474) (by decide +kernel)), wd_3, ⟨by decide +kernel, by decide +kernel, by decide +kernel⟩, by decide⟩
theorem wd_67 : Cond.instanceMethod yX4_hasWall ∈ pt_tbl := pt_tbl_in (List.mem_of_getElem? (i := 472) (by decide +kernel)) rfl
theorem wd_68 : Cond.selects RX4 yX4_hasWall yX4_hasWall ∈ pt_tbl := pt_tbl_in (List.mem_of_getElem? (i := 473) (by decide +kernel)) rfl
theorem iv_22 : Cond.instanceMethod yX4_hasWall ∈ pt_tbl ∧ Cond.selects RX4 yX4_hasWall yX4_hasWall ∈ pt_tbl := ⟨wd_67, wd_68⟩
theorem wd_69 : Cond.initialized RX6 ∈ pt_tbl := pt_tbl_in (List.mem_of_getElem? (i := 57) (by decide +kernel)) rfl
theorem cw_62 : pt_cW mm_62 1 := ⟨(List.mem_of_getElem? (i := 477) (by decide +kernel)), wd_69, ⟨by decide +kernel, by decide +kernel, by decide +kernel⟩, by decide⟩
theorem wd_70 : Cond.static yX6_isFlavour ∈ pt_tbl := pt_tbl_in (List.mem_of_getElem? (i := 476) (by decide +kernel)) rfl
theorem sv_62 : Cond.static yX6_isFlavour ∈ pt_tbl := wd_70
theorem cw_80 : pt_cW mm_80 1 := ⟨(List.mem_of_getElem? (i := 501) (by decide +kernel)), wd_69, ⟨by decide +kernel, by decide +kernel, by decide +kernel⟩, by decide⟩
theorem wd_71 : Cond.static yX6_fadesByDay ∈ pt_tbl := pt_tbl_in (List.mem_of_getElem? (i := 500) (by decide +kernel)) rfl
theorem sv_80 : Cond.static yX6_fadesByDay ∈ pt_tbl := wd_71
theorem wd_72 : Cond.methodLink RX4 48 Lib.Math.max.name ∈ pt_tbl := pt_tbl_in (List.mem_of_getElem? (i := 502) (by decide +kernel)) rfl
theorem wd_73 : Cond.fieldLink RX5 9 (TX5 0).1 (TX5 0).2.1 (TX5 0).2.2.1 ∈ pt_tbl := pt_tbl_in (List.mem_of_getElem? (i := 129) (by decide +kernel)) rfl
theorem wd_74 : Cond.fieldLink RX5 28 (TX5 4).1 (TX5 4).2.1 (TX5 4).2.2.1 ∈ pt_tbl := pt_tbl_in (List.mem_of_getElem? (i := 137) (by decide +kernel)) rfl
theorem wd_75 : Cond.fieldLink RX5 18 (TX5 1).1 (TX5 1).2.1 (TX5 1).2.2.1 ∈ pt_tbl := pt_tbl_in (List.mem_of_getElem? (i := 131) (by decide +kernel)) rfl
theorem wd_76 : Cond.methodLink RX5 44 yX4_clear ∈ pt_tbl := pt_tbl_in (List.mem_of_getElem? (i := 340) (by decide +kernel)) rfl
theorem cw_20 : pt_cW mm_20 0 := ⟨(List.mem_of_getElem? (i := 343) (by decide +kernel)), wd_3, ⟨by decide +kernel, by decide +kernel, by decide +kernel⟩, by decide⟩
theorem wd_77 : Cond.instanceMethod yX4_clear ∈ pt_tbl := pt_tbl_in (List.mem_of_getElem? (i := 341) (by decide +kernel)) rfl
theorem wd_78 : Cond.selects RX4 yX4_clear yX4_clear ∈ pt_tbl := pt_tbl_in (List.mem_of_getElem? (i := 342) (by decide +kernel)) rfl
theorem iv_20 : Cond.instanceMethod yX4_clear ∈ pt_tbl ∧ Cond.selects RX4 yX4_clear yX4_clear ∈ pt_tbl := ⟨wd_77, wd_78⟩
theorem wd_79 : Cond.fieldLink RX5 38 (TX5 7).1 (TX5 7).2.1 (TX5 7).2.2.1 ∈ pt_tbl := pt_tbl_in (List.mem_of_getElem? (i := 140) (by decide +kernel)) rfl
theorem wd_80 : Cond.methodLink RX5 47 yX5_toNextToken ∈ pt_tbl := pt_tbl_in (List.mem_of_getElem? (i := 344) (by decide +kernel)) rfl
theorem wd_81 : Cond.initialized RX5 ∈ pt_tbl := pt_tbl_in (List.mem_of_getElem? (i := 58) (by decide +kernel)) rfl
theorem cw_39 : pt_cW mm_39 0 := ⟨(List.mem_of_getElem? (i := 347) (by decide +kernel)), wd_81, ⟨by decide +kernel, by decide +kernel, by decide +kernel⟩, by decide⟩
theorem wd_82 : Cond.instanceMethod yX5_toNextToken ∈ pt_tbl := pt_tbl_in (List.mem_of_getElem? (i := 346) (by decide +kernel)) rfl
theorem wd_83 : Cond.selects RX5 yX5_toNextToken yX5_toNextToken ∈ pt_tbl := pt_tbl_in (List.mem_of_getElem? (i := 2) (by decide +kernel)) rfl
theorem iv_39 : Cond.instanceMethod yX5_toNextToken ∈ pt_tbl ∧ Cond.selects RX5 yX5_toNextToken yX5_toNextToken ∈ pt_tbl := ⟨wd_82, wd_83⟩
theorem wd_84 : Cond.methodLink RX5 52 yX5_isWord ∈ pt_tbl := pt_tbl_in (List.mem_of_getElem? (i := 366) (by decide +kernel)) rfl
theorem cw_38 : pt_cW mm_38 1 := ⟨(List.mem_of_getElem? (i := 369) (by decide +kernel)), wd_81, ⟨by decide +kernel, by decide +kernel, by decide +kernel⟩, by decide⟩
theorem wd_85 : Cond.instanceMethod yX5_isWord ∈ pt_tbl := pt_tbl_in (List.mem_of_getElem? (i := 368) (by decide +kernel)) rfl
theorem wd_86 : Cond.selects RX5 yX5_isWord yX5_isWord ∈ pt_tbl := pt_tbl_in (List.mem_of_getElem? (i := 5) (by decide +kernel)) rfl
theorem iv_38 : Cond.instanceMethod yX5_isWord ∈ pt_tbl ∧ Cond.selects RX5 yX5_isWord yX5_isWord ∈ pt_tbl := ⟨wd_85, wd_86⟩
theorem wd_87 : Cond.methodLink RX5 56 yX5_faulty ∈ pt_tbl := pt_tbl_in (List.mem_of_getElem? (i := 418) (by decide +kernel)) rfl
theorem cw_37 : pt_cW mm_37 1 := ⟨(List.mem_of_getElem? (i := 421) (by decide +kernel)), wd_81, ⟨by decide +kernel, by decide +kernel, by decide +kernel⟩, by decide⟩
theorem wd_88 : Cond.instanceMethod yX5_faulty ∈ pt_tbl := pt_tbl_in (List.mem_of_getElem? (i := 420) (by decide +kernel)) rfl
theorem wd_89 : Cond.selects RX5 yX5_faulty yX5_faulty ∈ pt_tbl := pt_tbl_in (List.mem_of_getElem? (i := 6) (by decide +kernel)) rfl
theorem iv_37 : Cond.instanceMethod yX5_faulty ∈ pt_tbl ∧ Cond.selects RX5 yX5_faulty yX5_faulty ∈ pt_tbl := ⟨wd_88, wd_89⟩
theorem wd_90 : Cond.methodLink RX5 60 yX5_tellWall ∈ pt_tbl := pt_tbl_in (List.mem_of_getElem? (i := 422) (by decide +kernel)) rfl
theorem cw_31 : pt_cW mm_31 0 := ⟨(List.mem_of_getElem? (i := 425) (by decide +kernel)), wd_81, ⟨by decide +kernel, by decide +kernel, by decide +kernel⟩, by decide⟩
theorem wd_91 : Cond.instanceMethod yX5_tellWall ∈ pt_tbl := pt_tbl_in (List.mem_of_getElem? (i := 424) (by decide +kernel)) rfl
theorem wd_92 : Cond.selects RX5 yX5_tellWall yX5_tellWall ∈ pt_tbl := pt_tbl_in (List.mem_of_getElem? (i := 7) (by decide +kernel)) rfl
theorem iv_31 : Cond.instanceMethod yX5_tellWall ∈ pt_tbl ∧ Cond.selects RX5 yX5_tellWall yX5_tellWall ∈ pt_tbl := ⟨wd_91, wd_92⟩
theorem wd_93 : Cond.methodLink RX5 66 yX5_tellReader ∈ pt_tbl := pt_tbl_in (List.mem_of_getElem? (i := 435) (by decide +kernel)) rfl
theorem cw_32 : pt_cW mm_32 0 := ⟨(List.mem_of_getElem? (i := 438) (by decide +kernel)), wd_81, ⟨by decide +kernel, by decide +kernel, by decide +kernel⟩, by decide⟩
theorem wd_94 : Cond.instanceMethod yX5_tellReader ∈ pt_tbl := pt_tbl_in (List.mem_of_getElem? (i := 437) (by decide +kernel)) rfl
theorem wd_95 : Cond.selects RX5 yX5_tellReader yX5_tellReader ∈ pt_tbl := pt_tbl_in (List.mem_of_getElem? (i := 10) (by decide +kernel)) rfl
theorem iv_32 : Cond.instanceMethod yX5_tellReader ∈ pt_tbl ∧ Cond.selects RX5 yX5_tellReader yX5_tellReader ∈ pt_tbl := ⟨wd_94, wd_95⟩
theorem wd_96 : Cond.fieldLink RX5 32 (TX5 5).1 (TX5 5).2.1 (TX5 5).2.2.1 ∈ pt_tbl := pt_tbl_in (List.mem_of_getElem? (i := 138) (by decide +kernel)) rfl
theorem wd_97 : Cond.fieldLink RX5 69 (TX4 0).1 (TX4 0).2.1 (TX4 0).2.2.1 ∈ pt_tbl := pt_tbl_in (List.mem_of_getElem? (i := 95) (by decide +kernel)) rfl
theorem wd_98 : Cond.fieldLink RX5 72 (TX4 3).1 (TX4 3).2.1 (TX4 3).2.2.1 ∈ pt_tbl := pt_tbl_in (List.mem_of_getElem? (i := 103) (by decide +kernel)) rfl
theorem wd_99 : Cond.methodLink RX5 75 yX5_tellNumbers ∈ pt_tbl := pt_tbl_in (List.mem_of_getElem? (i := 426) (by decide +kernel)) rfl
theorem cw_33 : pt_cW mm_33 3 := ⟨(List.mem_of_getElem? (i := 429) (by decide +kernel)), wd_81, ⟨by decide +kernel, by decide +kernel, by decide +kernel⟩, by decide⟩
theorem wd_100 : Cond.instanceMethod yX5_tellNumbers ∈ pt_tbl := pt_tbl_in (List.mem_of_getElem? (i := 428) (by decide +kernel)) rfl
theorem wd_101 : Cond.selects RX5 yX5_tellNumbers yX5_tellNumbers ∈ pt_tbl := pt_tbl_in (List.mem_of_getElem? (i := 8) (by decide +kernel)) rfl
theorem iv_33 : Cond.instanceMethod yX5_tellNumbers ∈ pt_tbl ∧ Cond.selects RX5 yX5_tellNumbers yX5_tellNumbers ∈ pt_tbl := ⟨wd_100, wd_101⟩
theorem wd_102 : Cond.methodLink RX5 79 yX5_tellSign ∈ pt_tbl := pt_tbl_in (List.mem_of_getElem? (i := 430) (by decide +kernel)) rfl
theorem cw_34 : pt_cW mm_34 0 := ⟨(List.mem_of_getElem? (i := 433) (by decide +kernel)), wd_81, ⟨by decide +kernel, by decide +kernel, by decide +kernel⟩, by decide⟩
theorem wd_103 : Cond.instanceMethod yX5_tellSign ∈ pt_tbl := pt_tbl_in (List.mem_of_getElem? (i := 432) (by decide +kernel)) rfl
theorem wd_104 : Cond.selects RX5 yX5_tellSign yX5_tellSign ∈ pt_tbl := pt_tbl_in (List.mem_of_getElem? (i := 9) (by decide +kernel)) rfl
theorem iv_34 : Cond.instanceMethod yX5_tellSign ∈ pt_tbl ∧ Cond.selects RX5 yX5_tellSign yX5_tellSign ∈ pt_tbl := ⟨wd_103, wd_104⟩
theorem wd_105 : Cond.fieldLink RX5 82 (TX4 1).1 (TX4 1).2.1 (TX4 1).2.2.1 ∈ pt_tbl := pt_tbl_in (List.mem_of_getElem? (i := 98) (by decide +kernel)) rfl
theorem wd_106 : Cond.methodLink RX5 85 yX5_kindOfSort ∈ pt_tbl := pt_tbl_in (List.mem_of_getElem? (i := 439) (by decide +kernel)) rfl
theorem cw_35 : pt_cW mm_35 0 := ⟨(List.mem_of_getElem? (i := 442) (by decide +kernel)), wd_81, ⟨by decide +kernel, by decide +kernel, by decide +kernel⟩, by decide⟩
theorem wd_107 : Cond.instanceMethod yX5_kindOfSort ∈ pt_tbl := pt_tbl_in (List.mem_of_getElem? (i := 441) (by decide +kernel)) rfl
theorem wd_108 : Cond.selects RX5 yX5_kindOfSort yX5_kindOfSort ∈ pt_tbl := pt_tbl_in (List.mem_of_getElem? (i := 11) (by decide +kernel)) rfl
theorem iv_35 : Cond.instanceMethod yX5_kindOfSort ∈ pt_tbl ∧ Cond.selects RX5 yX5_kindOfSort yX5_kindOfSort ∈ pt_tbl := ⟨wd_107, wd_108⟩
theorem wd_109 : Cond.fieldLink RX5 89 (TX4 5).1 (TX4 5).2.1 (TX4 5).2.2.1 ∈ pt_tbl := pt_tbl_in (List.mem_of_getElem? (i := 112) (by decide +kernel)) rfl
theorem wd_110 : Cond.fieldLink RX5 92 (TX4 4).1 (TX4 4).2.1 (TX4 4).2.2.1 ∈ pt_tbl := pt_tbl_in (List.mem_of_getElem? (i := 108) (by decide +kernel)) rfl
theorem wd_111 : Cond.fieldLink RX5 41 (TX5 8).1 (TX5 8).2.1 (TX5 8).2.2.1 ∈ pt_tbl := pt_tbl_in (List.mem_of_getElem? (i := 141) (by decide +kernel)) rfl
theorem wd_112 : Cond.fieldLink RX5 22 (TX5 2).1 (TX5 2).2.1 (TX5 2).2.2.1 ∈ pt_tbl := pt_tbl_in (List.mem_of_getElem? (i := 133) (by decide +kernel)) rfl
theorem wd_113 : Cond.fieldLink RX5 35 (TX5 6).1 (TX5 6).2.1 (TX5 6).2.2.1 ∈ pt_tbl := pt_tbl_in (List.mem_of_getElem? (i := 139) (by decide +kernel)) rfl
theorem wd_114 : Cond.fieldLink RX5 25 (TX5 3).1 (TX5 3).2.1 (TX5 3).2.2.1 ∈ pt_tbl := pt_tbl_in (List.mem_of_getElem? (i := 135) (by decide +kernel)) rfl
theorem wd_115 : Cond.methodLink RX5 105 yJ0_length_8abf5 ∈ pt_tbl := pt_tbl_in (List.mem_of_getElem? (i := 370) (by decide +kernel)) rfl
theorem wd_116 : Cond.initialized RJ0 ∈ pt_tbl := pt_tbl_in (List.mem_of_getElem? (i := 67) (by decide +kernel)) rfl
theorem cw_164 : pt_cW mm_164 0 := ⟨(List.mem_of_getElem? (i := 373) (by decide +kernel)), wd_116, ⟨by decide +kernel, by decide +kernel, by decide +kernel⟩, by decide⟩
theorem wd_117 : Cond.instanceMethod yJ0_length_8abf5 ∈ pt_tbl := pt_tbl_in (List.mem_of_getElem? (i := 371) (by decide +kernel)) rfl
theorem wd_118 : Cond.selects RJ0 yJ0_length_8abf5 yJ0_length_8abf5 ∈ pt_tbl := pt_tbl_in (List.mem_of_getElem? (i := 372) (by decide +kernel)) rfl
theorem iv_164 : Cond.instanceMethod yJ0_length_8abf5 ∈ pt_tbl ∧ Cond.selects RJ0 yJ0_length_8abf5 yJ0_length_8abf5 ∈ pt_tbl := ⟨wd_117, wd_118⟩
theorem wd_119 : Cond.methodLink RX5 109 yX5_at ∈ pt_tbl := pt_tbl_in (List.mem_of_getElem? (i := 348) (by decide +kernel)) rfl
theorem cw_36 : pt_cW mm_36 1 := ⟨(List.mem_of_getElem? (i := 351) (by decide +kernel)), wd_81, ⟨by decide +kernel, by decide +kernel, by decide +kernel⟩, by decide⟩
theorem wd_120 : Cond.instanceMethod yX5_at ∈ pt_tbl := pt_tbl_in (List.mem_of_getElem? (i := 350) (by decide +kernel)) rfl
theorem wd_121 : Cond.selects RX5 yX5_at yX5_at ∈ pt_tbl := pt_tbl_in (List.mem_of_getElem? (i := 3) (by decide +kernel)) rfl
theorem iv_36 : Cond.instanceMethod yX5_at ∈ pt_tbl ∧ Cond.selects RX5 yX5_at yX5_at ∈ pt_tbl := ⟨wd_120, wd_121⟩
theorem wd_122 : Cond.methodLink RX5 113 yJ0_charAt_5068e ∈ pt_tbl := pt_tbl_in (List.mem_of_getElem? (i := 380) (by decide +kernel)) rfl
theorem cw_165 : pt_cW mm_165 1 := ⟨(List.mem_of_getElem? (i := 383) (by decide +kernel)), wd_116, ⟨by decide +kernel, by decide +kernel, by decide +kernel⟩, by decide⟩
theorem wd_123 : Cond.instanceMethod yJ0_charAt_5068e ∈ pt_tbl := pt_tbl_in (List.mem_of_getElem? (i := 381) (by decide +kernel)) rfl
theorem wd_124 : Cond.selects RJ0 yJ0_charAt_5068e yJ0_charAt_5068e ∈ pt_tbl := pt_tbl_in (List.mem_of_getElem? (i := 382) (by decide +kernel)) rfl
theorem iv_165 : Cond.instanceMethod yJ0_charAt_5068e ∈ pt_tbl ∧ Cond.selects RJ0 yJ0_charAt_5068e yJ0_charAt_5068e ∈ pt_tbl := ⟨wd_123, wd_124⟩
theorem wd_125 : Cond.methodLink RX5 117 yX5_isBlank ∈ pt_tbl := pt_tbl_in (List.mem_of_getElem? (i := 352) (by decide +kernel)) rfl
theorem cw_41 : pt_cW mm_41 1 := ⟨(List.mem_of_getElem? (i := 354) (by decide +kernel)), wd_81, ⟨by decide +kernel, by decide +kernel, by decide +kernel⟩, by decide⟩
theorem wd_126 : Cond.static yX5_isBlank ∈ pt_tbl := pt_tbl_in (List.mem_of_getElem? (i := 353) (by decide +kernel)) rfl
theorem sv_41 : Cond.static yX5_isBlank ∈ pt_tbl := wd_126
theorem wd_127 : Cond.methodLink RX5 120 yX5_isLetter ∈ pt_tbl := pt_tbl_in (List.mem_of_getElem? (i := 355) (by decide +kernel)) rfl
theorem cw_42 : pt_cW mm_42 1 := ⟨(List.mem_of_getElem? (i := 357) (by decide +kernel)), wd_81, ⟨by decide +kernel, by decide +kernel, by decide +kernel⟩, by decide⟩
theorem wd_128 : Cond.static yX5_isLetter ∈ pt_tbl := pt_tbl_in (List.mem_of_getElem? (i := 356) (by decide +kernel)) rfl
theorem sv_42 : Cond.static yX5_isLetter ∈ pt_tbl := wd_128
theorem wd_129 : Cond.methodLink RX5 123 yX5_isFigure ∈ pt_tbl := pt_tbl_in (List.mem_of_getElem? (i := 358) (by decide +kernel)) rfl
theorem cw_43 : pt_cW mm_43 1 := ⟨(List.mem_of_getElem? (i := 360) (by decide +kernel)), wd_81, ⟨by decide +kernel, by decide +kernel, by decide +kernel⟩, by decide⟩
theorem wd_130 : Cond.static yX5_isFigure ∈ pt_tbl := pt_tbl_in (List.mem_of_getElem? (i := 359) (by decide +kernel)) rfl
theorem sv_43 : Cond.static yX5_isFigure ∈ pt_tbl := wd_130
theorem wd_131 : Cond.methodLink RX5 126 yX5_toEndOfNumber ∈ pt_tbl := pt_tbl_in (List.mem_of_getElem? (i := 361) (by decide +kernel)) rfl
theorem cw_40 : pt_cW mm_40 0 := ⟨(List.mem_of_getElem? (i := 364) (by decide +kernel)), wd_81, ⟨by decide +kernel, by decide +kernel, by decide +kernel⟩, by decide⟩
theorem wd_132 : Cond.instanceMethod yX5_toEndOfNumber ∈ pt_tbl := pt_tbl_in (List.mem_of_getElem? (i := 363) (by decide +kernel)) rfl
theorem wd_133 : Cond.selects RX5 yX5_toEndOfNumber yX5_toEndOfNumber ∈ pt_tbl := pt_tbl_in (List.mem_of_getElem? (i := 4) (by decide +kernel)) rfl
theorem iv_40 : Cond.instanceMethod yX5_toEndOfNumber ∈ pt_tbl ∧ Cond.selects RX5 yX5_toEndOfNumber yX5_toEndOfNumber ∈ pt_tbl := ⟨wd_132, wd_133⟩
theorem wd_134 : Cond.methodLink RX6 75 yX6_isRow ∈ pt_tbl := pt_tbl_in (List.mem_of_getElem? (i := 280) (by decide +kernel)) rfl
theorem cw_48 : pt_cW mm_48 1 := ⟨(List.mem_of_getElem? (i := 282) (by decide +kernel)), wd_69, ⟨by decide +kernel, by decide +kernel, by decide +kernel⟩, by decide⟩
theorem wd_135 : Cond.static yX6_isRow ∈ pt_tbl := pt_tbl_in (List.mem_of_getElem? (i := 281) (by decide +kernel)) rfl
theorem sv_48 : Cond.static yX6_isRow ∈ pt_tbl := wd_135
theorem wd_136 : Cond.constant RX6 79 (-1000001) ∈ pt_tbl := pt_tbl_in (List.mem_of_getElem? (i := 283) (by decide +kernel)) rfl
theorem wd_137 : Cond.methodLink RX6 80 yX6_finding ∈ pt_tbl := pt_tbl_in (List.mem_of_getElem? (i := 284) (by decide +kernel)) rfl
theorem cw_49 : pt_cW mm_49 1 := ⟨(List.mem_of_getElem? (i := 287) (by decide +kernel)), wd_69, ⟨by decide +kernel, by decide +kernel, by decide +kernel⟩, by decide⟩
theorem wd_138 : Cond.instanceMethod yX6_finding ∈ pt_tbl := pt_tbl_in (List.mem_of_getElem? (i := 286) (by decide +kernel)) rfl
theorem wd_139 : Cond.selects RX6 yX6_finding yX6_finding ∈ pt_tbl := pt_tbl_in (List.mem_of_getElem? (i := 0) (by decide +kernel)) rfl
theorem iv_49 : Cond.instanceMethod yX6_finding ∈ pt_tbl ∧ Cond.selects RX6 yX6_finding yX6_finding ∈ pt_tbl := ⟨wd_138, wd_139⟩
theorem wd_140 : Cond.fieldLink RX6 11 (TX6 0).1 (TX6 0).2.1 (TX6 0).2.2.1 ∈ pt_tbl := pt_tbl_in (List.mem_of_getElem? (i := 236) (by decide +kernel)) rfl
theorem wd_141 : Cond.methodLink RX6 84 yX3_begin ∈ pt_tbl := pt_tbl_in (List.mem_of_getElem? (i := 289) (by decide +kernel)) rfl
theorem wd_142 : Cond.initialized RX3 ∈ pt_tbl := pt_tbl_in (List.mem_of_getElem? (i := 63) (by decide +kernel)) rfl
theorem cw_17 : pt_cW mm_17 2 := ⟨(List.mem_of_getElem? (i := 292) (by decide +kernel)), wd_142, ⟨by decide +kernel, by decide +kernel, by decide +kernel⟩, by decide⟩
theorem wd_143 : Cond.instanceMethod yX3_begin ∈ pt_tbl := pt_tbl_in (List.mem_of_getElem? (i := 290) (by decide +kernel)) rfl
theorem wd_144 : Cond.selects RX3 yX3_begin yX3_begin ∈ pt_tbl := pt_tbl_in (List.mem_of_getElem? (i := 291) (by decide +kernel)) rfl
theorem iv_17 : Cond.instanceMethod yX3_begin ∈ pt_tbl ∧ Cond.selects RX3 yX3_begin yX3_begin ∈ pt_tbl := ⟨wd_143, wd_144⟩
theorem wd_145 : Cond.methodLink RX6 88 yX6_noFinding ∈ pt_tbl := pt_tbl_in (List.mem_of_getElem? (i := 296) (by decide +kernel)) rfl
theorem cw_50 : pt_cW mm_50 1 := ⟨(List.mem_of_getElem? (i := 299) (by decide +kernel)), wd_69, ⟨by decide +kernel, by decide +kernel, by decide +kernel⟩, by decide⟩
theorem wd_146 : Cond.instanceMethod yX6_noFinding ∈ pt_tbl := pt_tbl_in (List.mem_of_getElem? (i := 298) (by decide +kernel)) rfl
theorem wd_147 : Cond.selects RX6 yX6_noFinding yX6_noFinding ∈ pt_tbl := pt_tbl_in (List.mem_of_getElem? (i := 1) (by decide +kernel)) rfl
theorem iv_50 : Cond.instanceMethod yX6_noFinding ∈ pt_tbl ∧ Cond.selects RX6 yX6_noFinding yX6_noFinding ∈ pt_tbl := ⟨wd_146, wd_147⟩
theorem wd_148 : Cond.fieldLink RX6 91 (TX3 0).1 (TX3 0).2.1 (TX3 0).2.2.1 ∈ pt_tbl := pt_tbl_in (List.mem_of_getElem? (i := 220) (by decide +kernel)) rfl
theorem wd_149 : Cond.methodLink RX6 95 yX3_hasPlaces ∈ pt_tbl := pt_tbl_in (List.mem_of_getElem? (i := 304) (by decide +kernel)) rfl
theorem cw_18 : pt_cW mm_18 2 := ⟨(List.mem_of_getElem? (i := 307) (by decide +kernel)), wd_142, ⟨by decide +kernel, by decide +kernel, by decide +kernel⟩, by decide⟩
theorem wd_150 : Cond.instanceMethod yX3_hasPlaces ∈ pt_tbl := pt_tbl_in (List.mem_of_getElem? (i := 305) (by decide +kernel)) rfl
theorem wd_151 : Cond.selects RX3 yX3_hasPlaces yX3_hasPlaces ∈ pt_tbl := pt_tbl_in (List.mem_of_getElem? (i := 306) (by decide +kernel)) rfl
theorem iv_18 : Cond.instanceMethod yX3_hasPlaces ∈ pt_tbl ∧ Cond.selects RX3 yX3_hasPlaces yX3_hasPlaces ∈ pt_tbl := ⟨wd_150, wd_151⟩
theorem wd_152 : Cond.fieldLink RX6 99 (TX3 3).1 (TX3 3).2.1 (TX3 3).2.2.1 ∈ pt_tbl := pt_tbl_in (List.mem_of_getElem? (i := 226) (by decide +kernel)) rfl
theorem wd_153 : Cond.methodLink RX6 102 yX3_inLane ∈ pt_tbl := pt_tbl_in (List.mem_of_getElem? (i := 308) (by decide +kernel)) rfl
theorem cw_19 : pt_cW mm_19 1 := ⟨(List.mem_of_getElem? (i := 311) (by decide +kernel)), wd_142, ⟨by decide +kernel, by decide +kernel, by decide +kernel⟩, by decide⟩
theorem wd_154 : Cond.instanceMethod yX3_inLane ∈ pt_tbl := pt_tbl_in (List.mem_of_getElem? (i := 309) (by decide +kernel)) rfl
theorem wd_155 : Cond.selects RX3 yX3_inLane yX3_inLane ∈ pt_tbl := pt_tbl_in (List.mem_of_getElem? (i := 310) (by decide +kernel)) rfl
theorem iv_19 : Cond.instanceMethod yX3_inLane ∈ pt_tbl ∧ Cond.selects RX3 yX3_inLane yX3_inLane ∈ pt_tbl := ⟨wd_154, wd_155⟩
theorem wd_156 : Cond.fieldLink RX6 105 (TX3 1).1 (TX3 1).2.1 (TX3 1).2.2.1 ∈ pt_tbl := pt_tbl_in (List.mem_of_getElem? (i := 222) (by decide +kernel)) rfl
theorem wd_157 : Cond.methodLink RX6 108 arraycopyName ∈ pt_tbl := pt_tbl_in (List.mem_of_getElem? (i := 316) (by decide +kernel)) rfl
theorem wd_158 : Cond.fieldLink RX6 114 (TX3 2).1 (TX3 2).2.1 (TX3 2).2.2.1 ∈ pt_tbl := pt_tbl_in (List.mem_of_getElem? (i := 224) (by decide +kernel)) rfl
theorem wd_159 : Cond.fieldLink RX6 51 (TX6 7).1 (TX6 7).2.1 (TX6 7).2.2.1 ∈ pt_tbl := pt_tbl_in (List.mem_of_getElem? (i := 243) (by decide +kernel)) rfl
theorem wd_160 : Cond.constant RX6 117 (-1000010) ∈ pt_tbl := pt_tbl_in (List.mem_of_getElem? (i := 288) (by decide +kernel)) rfl
theorem wd_161 : Cond.fieldLink RX6 18 (TX6 1).1 (TX6 1).2.1 (TX6 1).2.2.1 ∈ pt_tbl := pt_tbl_in (List.mem_of_getElem? (i := 237) (by decide +kernel)) rfl
theorem wd_162 : Cond.fieldLink RX6 118 (TX5 0).1 (TX5 0).2.1 (TX5 0).2.2.1 ∈ pt_tbl := pt_tbl_in (List.mem_of_getElem? (i := 130) (by decide +kernel)) rfl
theorem wd_163 : Cond.constant RX6 121 (-1000003) ∈ pt_tbl := pt_tbl_in (List.mem_of_getElem? (i := 327) (by decide +kernel)) rfl
theorem wd_164 : Cond.methodLink RX6 122 yX5_add ∈ pt_tbl := pt_tbl_in (List.mem_of_getElem? (i := 328) (by decide +kernel)) rfl
theorem cw_29 : pt_cW mm_29 1 := ⟨(List.mem_of_getElem? (i := 331) (by decide +kernel)), wd_81, ⟨by decide +kernel, by decide +kernel, by decide +kernel⟩, by decide⟩
theorem wd_165 : Cond.instanceMethod yX5_add ∈ pt_tbl := pt_tbl_in (List.mem_of_getElem? (i := 329) (by decide +kernel)) rfl
theorem wd_166 : Cond.selects RX5 yX5_add yX5_add ∈ pt_tbl := pt_tbl_in (List.mem_of_getElem? (i := 330) (by decide +kernel)) rfl
theorem iv_29 : Cond.instanceMethod yX5_add ∈ pt_tbl ∧ Cond.selects RX5 yX5_add yX5_add ∈ pt_tbl := ⟨wd_165, wd_166⟩
theorem wd_167 : Cond.methodLink RX6 126 yX5_isStreet ∈ pt_tbl := pt_tbl_in (List.mem_of_getElem? (i := 336) (by decide +kernel)) rfl
theorem cw_30 : pt_cW mm_30 0 := ⟨(List.mem_of_getElem? (i := 339) (by decide +kernel)), wd_81, ⟨by decide +kernel, by decide +kernel, by decide +kernel⟩, by decide⟩
theorem wd_168 : Cond.instanceMethod yX5_isStreet ∈ pt_tbl := pt_tbl_in (List.mem_of_getElem? (i := 337) (by decide +kernel)) rfl
theorem wd_169 : Cond.selects RX5 yX5_isStreet yX5_isStreet ∈ pt_tbl := pt_tbl_in (List.mem_of_getElem? (i := 338) (by decide +kernel)) rfl
theorem iv_30 : Cond.instanceMethod yX5_isStreet ∈ pt_tbl ∧ Cond.selects RX5 yX5_isStreet yX5_isStreet ∈ pt_tbl := ⟨wd_168, wd_169⟩
theorem wd_170 : Cond.fieldLink RX6 130 (TX5 2).1 (TX5 2).2.1 (TX5 2).2.2.1 ∈ pt_tbl := pt_tbl_in (List.mem_of_getElem? (i := 134) (by decide +kernel)) rfl
theorem wd_171 : Cond.fieldLink RX6 47 (TX6 6).1 (TX6 6).2.1 (TX6 6).2.2.1 ∈ pt_tbl := pt_tbl_in (List.mem_of_getElem? (i := 242) (by decide +kernel)) rfl
theorem wd_172 : Cond.constant RX6 133 (-1000100) ∈ pt_tbl := pt_tbl_in (List.mem_of_getElem? (i := 448) (by decide +kernel)) rfl
theorem wd_173 : Cond.fieldLink RX6 134 (TX5 3).1 (TX5 3).2.1 (TX5 3).2.2.1 ∈ pt_tbl := pt_tbl_in (List.mem_of_getElem? (i := 136) (by decide +kernel)) rfl
theorem wd_174 : Cond.fieldLink RX6 25 (TX6 2).1 (TX6 2).2.1 (TX6 2).2.2.1 ∈ pt_tbl := pt_tbl_in (List.mem_of_getElem? (i := 238) (by decide +kernel)) rfl
theorem wd_175 : Cond.fieldLink RX6 137 (TX5 1).1 (TX5 1).2.1 (TX5 1).2.2.1 ∈ pt_tbl := pt_tbl_in (List.mem_of_getElem? (i := 132) (by decide +kernel)) rfl
theorem wd_176 : Cond.methodLink RX6 140 yX4_become ∈ pt_tbl := pt_tbl_in (List.mem_of_getElem? (i := 449) (by decide +kernel)) rfl
theorem wd_177 : Cond.fieldLink RX6 32 (TX6 3).1 (TX6 3).2.1 (TX6 3).2.2.1 ∈ pt_tbl := pt_tbl_in (List.mem_of_getElem? (i := 239) (by decide +kernel)) rfl
theorem wd_178 : Cond.methodLink RX6 144 yX0_forgetAll ∈ pt_tbl := pt_tbl_in (List.mem_of_getElem? (i := 454) (by decide +kernel)) rfl
theorem wd_179 : Cond.initialized RX0 ∈ pt_tbl := pt_tbl_in (List.mem_of_getElem? (i := 60) (by decide +kernel)) rfl
theorem cw_2 : pt_cW mm_2 0 := ⟨(List.mem_of_getElem? (i := 457) (by decide +kernel)), wd_179, ⟨by decide +kernel, by decide +kernel, by decide +kernel⟩, by decide⟩
theorem wd_180 : Cond.instanceMethod yX0_forgetAll ∈ pt_tbl := pt_tbl_in (List.mem_of_getElem? (i := 455) (by decide +kernel)) rfl
theorem wd_181 : Cond.selects RX0 yX0_forgetAll yX0_forgetAll ∈ pt_tbl := pt_tbl_in (List.mem_of_getElem? (i := 456) (by decide +kernel)) rfl
theorem iv_2 : Cond.instanceMethod yX0_forgetAll ∈ pt_tbl ∧ Cond.selects RX0 yX0_forgetAll yX0_forgetAll ∈ pt_tbl := ⟨wd_180, wd_181⟩
theorem wd_182 : Cond.fieldLink RX6 147 (TX4 0).1 (TX4 0).2.1 (TX4 0).2.2.1 ∈ pt_tbl := pt_tbl_in (List.mem_of_getElem? (i := 96) (by decide +kernel)) rfl
theorem wd_183 : Cond.methodLink RX6 150 yX4_hasFlavour ∈ pt_tbl := pt_tbl_in (List.mem_of_getElem? (i := 467) (by decide +kernel)) rfl
theorem cw_24 : pt_cW mm_24 2 := ⟨(List.mem_of_getElem? (i := 470) (by decide +kernel)), wd_3, ⟨by decide +kernel, by decide +kernel, by decide +kernel⟩, by decide⟩
theorem wd_184 : Cond.instanceMethod yX4_hasFlavour ∈ pt_tbl := pt_tbl_in (List.mem_of_getElem? (i := 468) (by decide +kernel)) rfl
theorem wd_185 : Cond.selects RX4 yX4_hasFlavour yX4_hasFlavour ∈ pt_tbl := pt_tbl_in (List.mem_of_getElem? (i := 469) (by decide +kernel)) rfl
theorem iv_24 : Cond.instanceMethod yX4_hasFlavour ∈ pt_tbl ∧ Cond.selects RX4 yX4_hasFlavour yX4_hasFlavour ∈ pt_tbl := ⟨wd_184, wd_185⟩
theorem wd_186 : Cond.methodLink RX6 153 yX0_keep ∈ pt_tbl := pt_tbl_in (List.mem_of_getElem? (i := 478) (by decide +kernel)) rfl
theorem cw_0 : pt_cW mm_0 1 := ⟨(List.mem_of_getElem? (i := 481) (by decide +kernel)), wd_179, ⟨by decide +kernel, by decide +kernel, by decide +kernel⟩, by decide⟩
theorem wd_187 : Cond.instanceMethod yX0_keep ∈ pt_tbl := pt_tbl_in (List.mem_of_getElem? (i := 479) (by decide +kernel)) rfl
theorem wd_188 : Cond.selects RX0 yX0_keep yX0_keep ∈ pt_tbl := pt_tbl_in (List.mem_of_getElem? (i := 480) (by decide +kernel)) rfl
theorem iv_0 : Cond.instanceMethod yX0_keep ∈ pt_tbl ∧ Cond.selects RX0 yX0_keep yX0_keep ∈ pt_tbl := ⟨wd_187, wd_188⟩
theorem wd_189 : Cond.methodLink RX6 156 yX4_strength ∈ pt_tbl := pt_tbl_in (List.mem_of_getElem? (i := 483) (by decide +kernel)) rfl
theorem wd_190 : Cond.methodLink RX6 160 Lib.Math.min.name ∈ pt_tbl := pt_tbl_in (List.mem_of_getElem? (i := 487) (by decide +kernel)) rfl
theorem wd_191 : Cond.fieldLink RX6 165 (TX4 3).1 (TX4 3).2.1 (TX4 3).2.2.1 ∈ pt_tbl := pt_tbl_in (List.mem_of_getElem? (i := 104) (by decide +kernel)) rfl
theorem wd_192 : Cond.constant RX6 168 (-1000002) ∈ pt_tbl := pt_tbl_in (List.mem_of_getElem? (i := 494) (by decide +kernel)) rfl
theorem wd_193 : Cond.fieldLink RX6 169 (TX4 2).1 (TX4 2).2.1 (TX4 2).2.2.1 ∈ pt_tbl := pt_tbl_in (List.mem_of_getElem? (i := 101) (by decide +kernel)) rfl
theorem wd_194 : Cond.methodLink RX6 172 yX4_fadeByDay ∈ pt_tbl := pt_tbl_in (List.mem_of_getElem? (i := 495) (by decide +kernel)) rfl
theorem cw_28 : pt_cW mm_28 1 := ⟨(List.mem_of_getElem? (i := 498) (by decide +kernel)), wd_3, ⟨by decide +kernel, by decide +kernel, by decide +kernel⟩, by decide⟩
theorem wd_195 : Cond.instanceMethod yX4_fadeByDay ∈ pt_tbl := pt_tbl_in (List.mem_of_getElem? (i := 496) (by decide +kernel)) rfl
theorem wd_196 : Cond.selects RX4 yX4_fadeByDay yX4_fadeByDay ∈ pt_tbl := pt_tbl_in (List.mem_of_getElem? (i := 497) (by decide +kernel)) rfl
theorem iv_28 : Cond.instanceMethod yX4_fadeByDay ∈ pt_tbl ∧ Cond.selects RX4 yX4_fadeByDay yX4_fadeByDay ∈ pt_tbl := ⟨wd_195, wd_196⟩
theorem wd_197 : Cond.methodLink RX6 175 yX6_canWalk ∈ pt_tbl := pt_tbl_in (List.mem_of_getElem? (i := 509) (by decide +kernel)) rfl
theorem cw_63 : pt_cW mm_63 3 := ⟨(List.mem_of_getElem? (i := 512) (by decide +kernel)), wd_69, ⟨by decide +kernel, by decide +kernel, by decide +kernel⟩, by decide⟩
theorem wd_198 : Cond.instanceMethod yX6_canWalk ∈ pt_tbl := pt_tbl_in (List.mem_of_getElem? (i := 511) (by decide +kernel)) rfl
theorem wd_199 : Cond.selects RX6 yX6_canWalk yX6_canWalk ∈ pt_tbl := pt_tbl_in (List.mem_of_getElem? (i := 12) (by decide +kernel)) rfl
theorem iv_63 : Cond.instanceMethod yX6_canWalk ∈ pt_tbl ∧ Cond.selects RX6 yX6_canWalk yX6_canWalk ∈ pt_tbl := ⟨wd_198, wd_199⟩
theorem wd_200 : Cond.fieldLink RX6 57 (TX6 8).1 (TX6 8).2.1 (TX6 8).2.2.1 ∈ pt_tbl := pt_tbl_in (List.mem_of_getElem? (i := 244) (by decide +kernel)) rfl
theorem wd_201 : Cond.methodLink RX6 179 yX2_take ∈ pt_tbl := pt_tbl_in (List.mem_of_getElem? (i := 518) (by decide +kernel)) rfl
theorem cw_8 : pt_cW mm_8 2 := ⟨(List.mem_of_getElem? (i := 521) (by decide +kernel)), wd_41, ⟨by decide +kernel, by decide +kernel, by decide +kernel⟩, by decide⟩
theorem wd_202 : Cond.instanceMethod yX2_take ∈ pt_tbl := pt_tbl_in (List.mem_of_getElem? (i := 519) (by decide +kernel)) rfl
theorem wd_203 : Cond.selects RX2 yX2_take yX2_take ∈ pt_tbl := pt_tbl_in (List.mem_of_getElem? (i := 520) (by decide +kernel)) rfl
theorem iv_8 : Cond.instanceMethod yX2_take ∈ pt_tbl ∧ Cond.selects RX2 yX2_take yX2_take ∈ pt_tbl := ⟨wd_202, wd_203⟩
theorem wd_204 : Cond.methodLink RX6 183 yX6_wallsOnWay ∈ pt_tbl := pt_tbl_in (List.mem_of_getElem? (i := 523) (by decide +kernel)) rfl
theorem cw_64 : pt_cW mm_64 2 := ⟨(List.mem_of_getElem? (i := 525) (by decide +kernel)), wd_69, ⟨by decide +kernel, by decide +kernel, by decide +kernel⟩, by decide⟩
theorem wd_205 : Cond.static yX6_wallsOnWay ∈ pt_tbl := pt_tbl_in (List.mem_of_getElem? (i := 524) (by decide +kernel)) rfl
theorem sv_64 : Cond.static yX6_wallsOnWay ∈ pt_tbl := wd_205
theorem wd_206 : Cond.methodLink RX6 186 yX6_wallOnWay ∈ pt_tbl := pt_tbl_in (List.mem_of_getElem? (i := 529) (by decide +kernel)) rfl
theorem cw_65 : pt_cW mm_65 3 := ⟨(List.mem_of_getElem? (i := 531) (by decide +kernel)), wd_69, ⟨by decide +kernel, by decide +kernel, by decide +kernel⟩, by decide⟩
theorem wd_207 : Cond.static yX6_wallOnWay ∈ pt_tbl := pt_tbl_in (List.mem_of_getElem? (i := 530) (by decide +kernel)) rfl
theorem sv_65 : Cond.static yX6_wallOnWay ∈ pt_tbl := wd_207
theorem wd_208 : Cond.methodLink RX6 190 yX2_tasteOn ∈ pt_tbl := pt_tbl_in (List.mem_of_getElem? (i := 532) (by decide +kernel)) rfl
theorem wd_209 : Cond.methodLink RX6 194 yX2_leave ∈ pt_tbl := pt_tbl_in (List.mem_of_getElem? (i := 547) (by decide +kernel)) rfl
theorem cw_9 : pt_cW mm_9 2 := ⟨(List.mem_of_getElem? (i := 550) (by decide +kernel)), wd_41, ⟨by decide +kernel, by decide +kernel, by decide +kernel⟩, by decide⟩
theorem wd_210 : Cond.instanceMethod yX2_leave ∈ pt_tbl := pt_tbl_in (List.mem_of_getElem? (i := 548) (by decide +kernel)) rfl
theorem wd_211 : Cond.selects RX2 yX2_leave yX2_leave ∈ pt_tbl := pt_tbl_in (List.mem_of_getElem? (i := 549) (by decide +kernel)) rfl
theorem iv_9 : Cond.instanceMethod yX2_leave ∈ pt_tbl ∧ Cond.selects RX2 yX2_leave yX2_leave ∈ pt_tbl := ⟨wd_210, wd_211⟩
theorem wd_212 : Cond.methodLink RX6 197 yX4_hasReader ∈ pt_tbl := pt_tbl_in (List.mem_of_getElem? (i := 513) (by decide +kernel)) rfl
theorem cw_23 : pt_cW mm_23 1 := ⟨(List.mem_of_getElem? (i := 516) (by decide +kernel)), wd_3, ⟨by decide +kernel, by decide +kernel, by decide +kernel⟩, by decide⟩
theorem wd_213 : Cond.instanceMethod yX4_hasReader ∈ pt_tbl := pt_tbl_in (List.mem_of_getElem? (i := 514) (by decide +kernel)) rfl
theorem wd_214 : Cond.selects RX4 yX4_hasReader yX4_hasReader ∈ pt_tbl := pt_tbl_in (List.mem_of_getElem? (i := 515) (by decide +kernel)) rfl
theorem iv_23 : Cond.instanceMethod yX4_hasReader ∈ pt_tbl ∧ Cond.selects RX4 yX4_hasReader yX4_hasReader ∈ pt_tbl := ⟨wd_213, wd_214⟩
theorem wd_215 : Cond.methodLink RX6 200 yX4_usedInAll ∈ pt_tbl := pt_tbl_in (List.mem_of_getElem? (i := 555) (by decide +kernel)) rfl
theorem wd_216 : Cond.methodLink RX6 203 yX2_forgetAll ∈ pt_tbl := pt_tbl_in (List.mem_of_getElem? (i := 559) (by decide +kernel)) rfl
theorem cw_10 : pt_cW mm_10 0 := ⟨(List.mem_of_getElem? (i := 562) (by decide +kernel)), wd_41, ⟨by decide +kernel, by decide +kernel, by decide +kernel⟩, by decide⟩
theorem wd_217 : Cond.instanceMethod yX2_forgetAll ∈ pt_tbl := pt_tbl_in (List.mem_of_getElem? (i := 560) (by decide +kernel)) rfl
theorem wd_218 : Cond.selects RX2 yX2_forgetAll yX2_forgetAll ∈ pt_tbl := pt_tbl_in (List.mem_of_getElem? (i := 561) (by decide +kernel)) rfl
theorem iv_10 : Cond.instanceMethod yX2_forgetAll ∈ pt_tbl ∧ Cond.selects RX2 yX2_forgetAll yX2_forgetAll ∈ pt_tbl := ⟨wd_217, wd_218⟩
theorem wd_219 : Cond.fieldLink RX6 204 (TX0 0).1 (TX0 0).2.1 (TX0 0).2.2.1 ∈ pt_tbl := pt_tbl_in (List.mem_of_getElem? (i := 173) (by decide +kernel)) rfl
theorem wd_220 : Cond.methodLink RX6 207 yX0_undoLatest ∈ pt_tbl := pt_tbl_in (List.mem_of_getElem? (i := 568) (by decide +kernel)) rfl
theorem cw_1 : pt_cW mm_1 1 := ⟨(List.mem_of_getElem? (i := 571) (by decide +kernel)), wd_179, ⟨by decide +kernel, by decide +kernel, by decide +kernel⟩, by decide⟩
theorem wd_221 : Cond.instanceMethod yX0_undoLatest ∈ pt_tbl := pt_tbl_in (List.mem_of_getElem? (i := 569) (by decide +kernel)) rfl
theorem wd_222 : Cond.selects RX0 yX0_undoLatest yX0_undoLatest ∈ pt_tbl := pt_tbl_in (List.mem_of_getElem? (i := 570) (by decide +kernel)) rfl
theorem iv_1 : Cond.instanceMethod yX0_undoLatest ∈ pt_tbl ∧ Cond.selects RX0 yX0_undoLatest yX0_undoLatest ∈ pt_tbl := ⟨wd_221, wd_222⟩
theorem wd_223 : Cond.fieldLink RX6 210 (TX4 5).1 (TX4 5).2.1 (TX4 5).2.2.1 ∈ pt_tbl := pt_tbl_in (List.mem_of_getElem? (i := 114) (by decide +kernel)) rfl
theorem wd_224 : Cond.methodLink RX6 213 yX2_feels ∈ pt_tbl := pt_tbl_in (List.mem_of_getElem? (i := 584) (by decide +kernel)) rfl
theorem wd_225 : Cond.methodLink RX6 216 yX4_hasWall ∈ pt_tbl := pt_tbl_in (List.mem_of_getElem? (i := 517) (by decide +kernel)) rfl
theorem wd_226 : Cond.methodLink RX6 219 Lib.Math.abs.name ∈ pt_tbl := pt_tbl_in (List.mem_of_getElem? (i := 526) (by decide +kernel)) rfl
theorem wd_227 : Cond.constant RX6 222 (-1000000) ∈ pt_tbl := pt_tbl_in (List.mem_of_getElem? (i := 589) (by decide +kernel)) rfl
theorem wd_228 : Cond.methodLink RX6 223 yX2_readOn ∈ pt_tbl := pt_tbl_in (List.mem_of_getElem? (i := 590) (by decide +kernel)) rfl
theorem cw_13 : pt_cW mm_13 2 := ⟨(List.mem_of_getElem? (i := 593) (by decide +kernel)), wd_41, ⟨by decide +kernel, by decide +kernel, by decide +kernel⟩, by decide⟩
theorem wd_229 : Cond.instanceMethod yX2_readOn ∈ pt_tbl := pt_tbl_in (List.mem_of_getElem? (i := 591) (by decide +kernel)) rfl
theorem wd_230 : Cond.selects RX2 yX2_readOn yX2_readOn ∈ pt_tbl := pt_tbl_in (List.mem_of_getElem? (i := 592) (by decide +kernel)) rfl
theorem iv_13 : Cond.instanceMethod yX2_readOn ∈ pt_tbl ∧ Cond.selects RX2 yX2_readOn yX2_readOn ∈ pt_tbl := ⟨wd_229, wd_230⟩
theorem wd_231 : Cond.methodLink RX6 226 yX6_hearMessage ∈ pt_tbl := pt_tbl_in (List.mem_of_getElem? (i := 603) (by decide +kernel)) rfl
theorem cw_76 : pt_cW mm_76 4 := ⟨(List.mem_of_getElem? (i := 606) (by decide +kernel)), wd_69, ⟨by decide +kernel, by decide +kernel, by decide +kernel⟩, by decide⟩
theorem wd_232 : Cond.instanceMethod yX6_hearMessage ∈ pt_tbl := pt_tbl_in (List.mem_of_getElem? (i := 605) (by decide +kernel)) rfl
theorem wd_233 : Cond.selects RX6 yX6_hearMessage yX6_hearMessage ∈ pt_tbl := pt_tbl_in (List.mem_of_getElem? (i := 13) (by decide +kernel)) rfl
theorem iv_76 : Cond.instanceMethod yX6_hearMessage ∈ pt_tbl ∧ Cond.selects RX6 yX6_hearMessage yX6_hearMessage ∈ pt_tbl := ⟨wd_232, wd_233⟩
theorem wd_234 : Cond.fieldLink RX6 61 (TX6 9).1 (TX6 9).2.1 (TX6 9).2.2.1 ∈ pt_tbl := pt_tbl_in (List.mem_of_getElem? (i := 245) (by decide +kernel)) rfl
theorem wd_235 : Cond.fieldLink RX6 65 (TX6 10).1 (TX6 10).2.1 (TX6 10).2.2.1 ∈ pt_tbl := pt_tbl_in (List.mem_of_getElem? (i := 246) (by decide +kernel)) rfl
theorem wd_236 : Cond.methodLink RX6 230 yX6_readsOtherwise ∈ pt_tbl := pt_tbl_in (List.mem_of_getElem? (i := 611) (by decide +kernel)) rfl
theorem cw_77 : pt_cW mm_77 2 := ⟨(List.mem_of_getElem? (i := 614) (by decide +kernel)), wd_69, ⟨by decide +kernel, by decide +kernel, by decide +kernel⟩, by decide⟩
theorem wd_237 : Cond.instanceMethod yX6_readsOtherwise ∈ pt_tbl := pt_tbl_in (List.mem_of_getElem? (i := 613) (by decide +kernel)) rfl
theorem wd_238 : Cond.selects RX6 yX6_readsOtherwise yX6_readsOtherwise ∈ pt_tbl := pt_tbl_in (List.mem_of_getElem? (i := 14) (by decide +kernel)) rfl
theorem iv_77 : Cond.instanceMethod yX6_readsOtherwise ∈ pt_tbl ∧ Cond.selects RX6 yX6_readsOtherwise yX6_readsOtherwise ∈ pt_tbl := ⟨wd_237, wd_238⟩
theorem wd_239 : Cond.fieldLink RX6 68 (TX6 11).1 (TX6 11).2.1 (TX6 11).2.2.1 ∈ pt_tbl := pt_tbl_in (List.mem_of_getElem? (i := 247) (by decide +kernel)) rfl
theorem wd_240 : Cond.methodLink RX6 233 yX6_findSpice ∈ pt_tbl := pt_tbl_in (List.mem_of_getElem? (i := 619) (by decide +kernel)) rfl
theorem cw_78 : pt_cW mm_78 4 := ⟨(List.mem_of_getElem? (i := 622) (by decide +kernel)), wd_69, ⟨by decide +kernel, by decide +kernel, by decide +kernel⟩, by decide⟩
theorem wd_241 : Cond.instanceMethod yX6_findSpice ∈ pt_tbl := pt_tbl_in (List.mem_of_getElem? (i := 621) (by decide +kernel)) rfl
theorem wd_242 : Cond.selects RX6 yX6_findSpice yX6_findSpice ∈ pt_tbl := pt_tbl_in (List.mem_of_getElem? (i := 15) (by decide +kernel)) rfl
theorem iv_78 : Cond.instanceMethod yX6_findSpice ∈ pt_tbl ∧ Cond.selects RX6 yX6_findSpice yX6_findSpice ∈ pt_tbl := ⟨wd_241, wd_242⟩
theorem wd_243 : Cond.fieldLink RX6 71 (TX6 12).1 (TX6 12).2.1 (TX6 12).2.2.1 ∈ pt_tbl := pt_tbl_in (List.mem_of_getElem? (i := 248) (by decide +kernel)) rfl
theorem wd_244 : Cond.methodLink RX6 237 Lib.Math.max.name ∈ pt_tbl := pt_tbl_in (List.mem_of_getElem? (i := 633) (by decide +kernel)) rfl
theorem wd_245 : Cond.methodLink RX6 240 yX6_isFlavour ∈ pt_tbl := pt_tbl_in (List.mem_of_getElem? (i := 638) (by decide +kernel)) rfl
theorem wd_246 : Cond.methodLink RX6 243 yX6_firstFelt ∈ pt_tbl := pt_tbl_in (List.mem_of_getElem? (i := 639) (by decide +kernel)) rfl
theorem cw_79 : pt_cW mm_79 2 := ⟨(List.mem_of_getElem? (i := 642) (by decide +kernel)), wd_69, ⟨by decide +kernel, by decide +kernel, by decide +kernel⟩, by decide⟩
theorem wd_247 : Cond.instanceMethod yX6_firstFelt ∈ pt_tbl := pt_tbl_in (List.mem_of_getElem? (i := 641) (by decide +kernel)) rfl
theorem wd_248 : Cond.selects RX6 yX6_firstFelt yX6_firstFelt ∈ pt_tbl := pt_tbl_in (List.mem_of_getElem? (i := 16) (by decide +kernel)) rfl
theorem iv_79 : Cond.instanceMethod yX6_firstFelt ∈ pt_tbl ∧ Cond.selects RX6 yX6_firstFelt yX6_firstFelt ∈ pt_tbl := ⟨wd_247, wd_248⟩
theorem wd_249 : Cond.methodLink RX6 246 yX2_getsUsedTo ∈ pt_tbl := pt_tbl_in (List.mem_of_getElem? (i := 628) (by decide +kernel)) rfl
theorem wd_250 : Cond.methodLink RX6 249 yX6_fadesByDay ∈ pt_tbl := pt_tbl_in (List.mem_of_getElem? (i := 647) (by decide +kernel)) rfl
theorem wd_251 : Cond.fieldLink RX6 36 (TX6 4).1 (TX6 4).2.1 (TX6 4).2.2.1 ∈ pt_tbl := pt_tbl_in (List.mem_of_getElem? (i := 240) (by decide +kernel)) rfl
theorem wd_252 : Cond.methodLink RX6 252 yX2_swapped ∈ pt_tbl := pt_tbl_in (List.mem_of_getElem? (i := 623) (by decide +kernel)) rfl
theorem wd_253 : Cond.methodLink RX6 255 yX2_leastSpice ∈ pt_tbl := pt_tbl_in (List.mem_of_getElem? (i := 624) (by decide +kernel)) rfl
theorem cw_16 : pt_cW mm_16 3 := ⟨(List.mem_of_getElem? (i := 627) (by decide +kernel)), wd_41, ⟨by decide +kernel, by decide +kernel, by decide +kernel⟩, by decide⟩
theorem wd_254 : Cond.instanceMethod yX2_leastSpice ∈ pt_tbl := pt_tbl_in (List.mem_of_getElem? (i := 625) (by decide +kernel)) rfl
theorem wd_255 : Cond.selects RX2 yX2_leastSpice yX2_leastSpice ∈ pt_tbl := pt_tbl_in (List.mem_of_getElem? (i := 626) (by decide +kernel)) rfl
theorem iv_16 : Cond.instanceMethod yX2_leastSpice ∈ pt_tbl ∧ Cond.selects RX2 yX2_leastSpice yX2_leastSpice ∈ pt_tbl := ⟨wd_254, wd_255⟩
theorem wd_256 : Cond.fieldLink RX6 259 (TX4 4).1 (TX4 4).2.1 (TX4 4).2.2.1 ∈ pt_tbl := pt_tbl_in (List.mem_of_getElem? (i := 109) (by decide +kernel)) rfl
theorem wd_257 : Cond.methodLink RX6 262 yX6_isOfKind ∈ pt_tbl := pt_tbl_in (List.mem_of_getElem? (i := 668) (by decide +kernel)) rfl
theorem cw_87 : pt_cW mm_87 2 := ⟨(List.mem_of_getElem? (i := 670) (by decide +kernel)), wd_69, ⟨by decide +kernel, by decide +kernel, by decide +kernel⟩, by decide⟩
theorem wd_258 : Cond.static yX6_isOfKind ∈ pt_tbl := pt_tbl_in (List.mem_of_getElem? (i := 669) (by decide +kernel)) rfl
theorem sv_87 : Cond.static yX6_isOfKind ∈ pt_tbl := wd_258
theorem wd_259 : Cond.fieldLink RX6 43 (TX6 5).1 (TX6 5).2.1 (TX6 5).2.2.1 ∈ pt_tbl := pt_tbl_in (List.mem_of_getElem? (i := 241) (by decide +kernel)) rfl
theorem wd_260 : Cond.methodLink RX6 265 yX1_answer ∈ pt_tbl := pt_tbl_in (List.mem_of_getElem? (i := 677) (by decide +kernel)) rfl
theorem cw_3 : pt_cW mm_3 3 := ⟨(List.mem_of_getElem? (i := 680) (by decide +kernel)), wd_9, ⟨by decide +kernel, by decide +kernel, by decide +kernel⟩, by decide⟩
theorem wd_261 : Cond.instanceMethod yX1_answer ∈ pt_tbl := pt_tbl_in (List.mem_of_getElem? (i := 678) (by decide +kernel)) rfl
theorem wd_262 : Cond.selects RX1 yX1_answer yX1_answer ∈ pt_tbl := pt_tbl_in (List.mem_of_getElem? (i := 679) (by decide +kernel)) rfl
theorem iv_3 : Cond.instanceMethod yX1_answer ∈ pt_tbl ∧ Cond.selects RX1 yX1_answer yX1_answer ∈ pt_tbl := ⟨wd_261, wd_262⟩
theorem wd_263 : Cond.fieldLink RX6 268 (TX1 0).1 (TX1 0).2.1 (TX1 0).2.2.1 ∈ pt_tbl := pt_tbl_in (List.mem_of_getElem? (i := 190) (by decide +kernel)) rfl
theorem wd_264 : Cond.fieldLink RX6 271 (TX1 1).1 (TX1 1).2.1 (TX1 1).2.2.1 ∈ pt_tbl := pt_tbl_in (List.mem_of_getElem? (i := 192) (by decide +kernel)) rfl
theorem wd_265 : Cond.methodLink RX6 274 yX6_rowsThere ∈ pt_tbl := pt_tbl_in (List.mem_of_getElem? (i := 711) (by decide +kernel)) rfl
theorem cw_88 : pt_cW mm_88 0 := ⟨(List.mem_of_getElem? (i := 714) (by decide +kernel)), wd_69, ⟨by decide +kernel, by decide +kernel, by decide +kernel⟩, by decide⟩
theorem wd_266 : Cond.instanceMethod yX6_rowsThere ∈ pt_tbl := pt_tbl_in (List.mem_of_getElem? (i := 713) (by decide +kernel)) rfl
theorem wd_267 : Cond.selects RX6 yX6_rowsThere yX6_rowsThere ∈ pt_tbl := pt_tbl_in (List.mem_of_getElem? (i := 21) (by decide +kernel)) rfl
theorem iv_88 : Cond.instanceMethod yX6_rowsThere ∈ pt_tbl ∧ Cond.selects RX6 yX6_rowsThere yX6_rowsThere ∈ pt_tbl := ⟨wd_266, wd_267⟩
theorem wd_268 : Cond.fieldLink RX6 278 (TX4 1).1 (TX4 1).2.1 (TX4 1).2.2.1 ∈ pt_tbl := pt_tbl_in (List.mem_of_getElem? (i := 99) (by decide +kernel)) rfl
theorem wd_269 : Cond.methodLink RX6 281 yX4_strengthInAll ∈ pt_tbl := pt_tbl_in (List.mem_of_getElem? (i := 715) (by decide +kernel)) rfl
theorem cw_26 : pt_cW mm_26 0 := ⟨(List.mem_of_getElem? (i := 718) (by decide +kernel)), wd_3, ⟨by decide +kernel, by decide +kernel, by decide +kernel⟩, by decide⟩
theorem wd_270 : Cond.instanceMethod yX4_strengthInAll ∈ pt_tbl := pt_tbl_in (List.mem_of_getElem? (i := 716) (by decide +kernel)) rfl
theorem wd_271 : Cond.selects RX4 yX4_strengthInAll yX4_strengthInAll ∈ pt_tbl := pt_tbl_in (List.mem_of_getElem? (i := 717) (by decide +kernel)) rfl
theorem iv_26 : Cond.instanceMethod yX4_strengthInAll ∈ pt_tbl ∧ Cond.selects RX4 yX4_strengthInAll yX4_strengthInAll ∈ pt_tbl := ⟨wd_270, wd_271⟩
theorem wd_272 : Cond.fieldLink RX6 284 RX6 (pt_sn 0) "[I" ∈ pt_tbl := pt_tbl_in (List.mem_of_getElem? (i := 671) (by decide +kernel)) rfl
theorem wd_273 : Cond.fieldLink RX7 57 (TX7 1).1 (TX7 1).2.1 (TX7 1).2.2.1 ∈ pt_tbl := pt_tbl_in (List.mem_of_getElem? (i := 730) (by decide +kernel)) rfl
theorem wd_274 : Cond.constant RX7 60 (-1000010) ∈ pt_tbl := pt_tbl_in (List.mem_of_getElem? (i := 835) (by decide +kernel)) rfl
theorem wd_275 : Cond.constantLong RX7 61 7 ∈ pt_tbl := pt_tbl_in (List.mem_of_getElem? (i := 825) (by decide +kernel)) rfl
theorem wd_276 : Cond.methodLink RX7 63 yX7_in ∈ pt_tbl := pt_tbl_in (List.mem_of_getElem? (i := 826) (by decide +kernel)) rfl
theorem wd_277 : Cond.initialized RX7 ∈ pt_tbl := pt_tbl_in (List.mem_of_getElem? (i := 64) (by decide +kernel)) rfl
theorem cw_89 : pt_cW mm_89 3 := ⟨(List.mem_of_getElem? (i := 828) (by decide +kernel)), wd_277, ⟨by decide +kernel, by decide +kernel, by decide +kernel⟩, by decide⟩
theorem wd_278 : Cond.static yX7_in ∈ pt_tbl := pt_tbl_in (List.mem_of_getElem? (i := 827) (by decide +kernel)) rfl
theorem sv_89 : Cond.static yX7_in ∈ pt_tbl := wd_278
theorem wd_279 : Cond.fieldLink RX7 53 (TX7 0).1 (TX7 0).2.1 (TX7 0).2.2.1 ∈ pt_tbl := pt_tbl_in (List.mem_of_getElem? (i := 729) (by decide +kernel)) rfl
theorem wd_280 : Cond.methodLink RX7 67 yX7_isRow ∈ pt_tbl := pt_tbl_in (List.mem_of_getElem? (i := 822) (by decide +kernel)) rfl
theorem cw_91 : pt_cW mm_91 1 := ⟨(List.mem_of_getElem? (i := 824) (by decide +kernel)), wd_277, ⟨by decide +kernel, by decide +kernel, by decide +kernel⟩, by decide⟩
theorem wd_281 : Cond.static yX7_isRow ∈ pt_tbl := pt_tbl_in (List.mem_of_getElem? (i := 823) (by decide +kernel)) rfl
theorem sv_91 : Cond.static yX7_isRow ∈ pt_tbl := wd_281
theorem wd_282 : Cond.constantLong RX7 71 2 ∈ pt_tbl := pt_tbl_in (List.mem_of_getElem? (i := 829) (by decide +kernel)) rfl
theorem wd_283 : Cond.constant RX7 73 (-1000001) ∈ pt_tbl := pt_tbl_in (List.mem_of_getElem? (i := 830) (by decide +kernel)) rfl
theorem wd_284 : Cond.methodLink RX7 74 yX7_finding ∈ pt_tbl := pt_tbl_in (List.mem_of_getElem? (i := 831) (by decide +kernel)) rfl
theorem cw_90 : pt_cW mm_90 1 := ⟨(List.mem_of_getElem? (i := 834) (by decide +kernel)), wd_277, ⟨by decide +kernel, by decide +kernel, by decide +kernel⟩, by decide⟩
theorem wd_285 : Cond.instanceMethod yX7_finding ∈ pt_tbl := pt_tbl_in (List.mem_of_getElem? (i := 833) (by decide +kernel)) rfl
theorem wd_286 : Cond.selects RX7 yX7_finding yX7_finding ∈ pt_tbl := pt_tbl_in (List.mem_of_getElem? (i := 22) (by decide +kernel)) rfl
theorem iv_90 : Cond.instanceMethod yX7_finding ∈ pt_tbl ∧ Cond.selects RX7 yX7_finding yX7_finding ∈ pt_tbl := ⟨wd_285, wd_286⟩
theorem wd_287 : Cond.fieldLink RX7 7 (TX7 2).1 (TX7 2).2.1 (TX7 2).2.2.1 ∈ pt_tbl := pt_tbl_in (List.mem_of_getElem? (i := 731) (by decide +kernel)) rfl
theorem wd_288 : Cond.fieldLink RX7 13 (TX7 3).1 (TX7 3).2.1 (TX7 3).2.2.1 ∈ pt_tbl := pt_tbl_in (List.mem_of_getElem? (i := 732) (by decide +kernel)) rfl
theorem wd_289 : Cond.fieldLink RX7 16 (TX7 4).1 (TX7 4).2.1 (TX7 4).2.2.1 ∈ pt_tbl := pt_tbl_in (List.mem_of_getElem? (i := 733) (by decide +kernel)) rfl
theorem wd_290 : Cond.constantLong RX7 78 8 ∈ pt_tbl := pt_tbl_in (List.mem_of_getElem? (i := 852) (by decide +kernel)) rfl
theorem wd_291 : Cond.fieldLink RX7 80 (TX7 10).1 (TX7 10).2.1 (TX7 10).2.2.1 ∈ pt_tbl := pt_tbl_in (List.mem_of_getElem? (i := 739) (by decide +kernel)) rfl
theorem wd_292 : Cond.constant RX7 83 (-1000003) ∈ pt_tbl := pt_tbl_in (List.mem_of_getElem? (i := 853) (by decide +kernel)) rfl
theorem wd_293 : Cond.fieldLink RX7 28 (TX7 9).1 (TX7 9).2.1 (TX7 9).2.2.1 ∈ pt_tbl := pt_tbl_in (List.mem_of_getElem? (i := 738) (by decide +kernel)) rfl
theorem wd_294 : Cond.constantLong RX7 84 255 ∈ pt_tbl := pt_tbl_in (List.mem_of_getElem? (i := 854) (by decide +kernel)) rfl
theorem wd_295 : Cond.fieldLink RX7 86 (TX7 12).1 (TX7 12).2.1 (TX7 12).2.2.1 ∈ pt_tbl := pt_tbl_in (List.mem_of_getElem? (i := 741) (by decide +kernel)) rfl
theorem wd_296 : Cond.constant RX7 89 (-1000000) ∈ pt_tbl := pt_tbl_in (List.mem_of_getElem? (i := 871) (by decide +kernel)) rfl
theorem wd_297 : Cond.fieldLink RX7 90 (TX7 13).1 (TX7 13).2.1 (TX7 13).2.2.1 ∈ pt_tbl := pt_tbl_in (List.mem_of_getElem? (i := 742) (by decide +kernel)) rfl
theorem wd_298 : Cond.methodLink RX7 93 yX7_byteAt ∈ pt_tbl := pt_tbl_in (List.mem_of_getElem? (i := 867) (by decide +kernel)) rfl
theorem cw_97 : pt_cW mm_97 1 := ⟨(List.mem_of_getElem? (i := 870) (by decide +kernel)), wd_277, ⟨by decide +kernel, by decide +kernel, by decide +kernel⟩, by decide⟩
theorem wd_299 : Cond.instanceMethod yX7_byteAt ∈ pt_tbl := pt_tbl_in (List.mem_of_getElem? (i := 869) (by decide +kernel)) rfl
theorem wd_300 : Cond.selects RX7 yX7_byteAt yX7_byteAt ∈ pt_tbl := pt_tbl_in (List.mem_of_getElem? (i := 25) (by decide +kernel)) rfl
theorem iv_97 : Cond.instanceMethod yX7_byteAt ∈ pt_tbl ∧ Cond.selects RX7 yX7_byteAt yX7_byteAt ∈ pt_tbl := ⟨wd_299, wd_300⟩
theorem wd_301 : Cond.fieldLink RX7 96 (TX7 15).1 (TX7 15).2.1 (TX7 15).2.2.1 ∈ pt_tbl := pt_tbl_in (List.mem_of_getElem? (i := 744) (by decide +kernel)) rfl
theorem wd_302 : Cond.fieldLink RX7 99 (TX7 14).1 (TX7 14).2.1 (TX7 14).2.2.1 ∈ pt_tbl := pt_tbl_in (List.mem_of_getElem? (i := 743) (by decide +kernel)) rfl
theorem wd_303 : Cond.methodLink RX7 102 yX7_isLetter ∈ pt_tbl := pt_tbl_in (List.mem_of_getElem? (i := 872) (by decide +kernel)) rfl
theorem cw_98 : pt_cW mm_98 1 := ⟨(List.mem_of_getElem? (i := 874) (by decide +kernel)), wd_277, ⟨by decide +kernel, by decide +kernel, by decide +kernel⟩, by decide⟩
theorem wd_304 : Cond.static yX7_isLetter ∈ pt_tbl := pt_tbl_in (List.mem_of_getElem? (i := 873) (by decide +kernel)) rfl
theorem sv_98 : Cond.static yX7_isLetter ∈ pt_tbl := wd_304
theorem wd_305 : Cond.methodLink RX7 105 yX7_isFigure ∈ pt_tbl := pt_tbl_in (List.mem_of_getElem? (i := 875) (by decide +kernel)) rfl
theorem cw_99 : pt_cW mm_99 1 := ⟨(List.mem_of_getElem? (i := 877) (by decide +kernel)), wd_277, ⟨by decide +kernel, by decide +kernel, by decide +kernel⟩, by decide⟩
theorem wd_306 : Cond.static yX7_isFigure ∈ pt_tbl := pt_tbl_in (List.mem_of_getElem? (i := 876) (by decide +kernel)) rfl
theorem sv_99 : Cond.static yX7_isFigure ∈ pt_tbl := wd_306
theorem wd_307 : Cond.fieldLink RX7 108 (TX7 16).1 (TX7 16).2.1 (TX7 16).2.2.1 ∈ pt_tbl := pt_tbl_in (List.mem_of_getElem? (i := 745) (by decide +kernel)) rfl
theorem wd_308 : Cond.fieldLink RX7 111 (TX7 17).1 (TX7 17).2.1 (TX7 17).2.2.1 ∈ pt_tbl := pt_tbl_in (List.mem_of_getElem? (i := 746) (by decide +kernel)) rfl
theorem wd_309 : Cond.methodLink RX7 114 yX7_next ∈ pt_tbl := pt_tbl_in (List.mem_of_getElem? (i := 863) (by decide +kernel)) rfl
theorem cw_100 : pt_cW mm_100 0 := ⟨(List.mem_of_getElem? (i := 866) (by decide +kernel)), wd_277, ⟨by decide +kernel, by decide +kernel, by decide +kernel⟩, by decide⟩
theorem wd_310 : Cond.instanceMethod yX7_next ∈ pt_tbl := pt_tbl_in (List.mem_of_getElem? (i := 865) (by decide +kernel)) rfl
theorem wd_311 : Cond.selects RX7 yX7_next yX7_next ∈ pt_tbl := pt_tbl_in (List.mem_of_getElem? (i := 24) (by decide +kernel)) rfl
theorem iv_100 : Cond.instanceMethod yX7_next ∈ pt_tbl ∧ Cond.selects RX7 yX7_next yX7_next ∈ pt_tbl := ⟨wd_310, wd_311⟩
theorem wd_312 : Cond.fieldLink RX7 117 (TX7 18).1 (TX7 18).2.1 (TX7 18).2.2.1 ∈ pt_tbl := pt_tbl_in (List.mem_of_getElem? (i := 747) (by decide +kernel)) rfl
theorem wd_313 : Cond.methodLink RX7 120 yX7_bad ∈ pt_tbl := pt_tbl_in (List.mem_of_getElem? (i := 883) (by decide +kernel)) rfl
theorem cw_102 : pt_cW mm_102 1 := ⟨(List.mem_of_getElem? (i := 886) (by decide +kernel)), wd_277, ⟨by decide +kernel, by decide +kernel, by decide +kernel⟩, by decide⟩
theorem wd_314 : Cond.instanceMethod yX7_bad ∈ pt_tbl := pt_tbl_in (List.mem_of_getElem? (i := 885) (by decide +kernel)) rfl
theorem wd_315 : Cond.selects RX7 yX7_bad yX7_bad ∈ pt_tbl := pt_tbl_in (List.mem_of_getElem? (i := 27) (by decide +kernel)) rfl
theorem iv_102 : Cond.instanceMethod yX7_bad ∈ pt_tbl ∧ Cond.selects RX7 yX7_bad yX7_bad ∈ pt_tbl := ⟨wd_314, wd_315⟩
theorem wd_316 : Cond.methodLink RX7 124 yX7_figures ∈ pt_tbl := pt_tbl_in (List.mem_of_getElem? (i := 903) (by decide +kernel)) rfl
theorem cw_105 : pt_cW mm_105 0 := ⟨(List.mem_of_getElem? (i := 906) (by decide +kernel)), wd_277, ⟨by decide +kernel, by decide +kernel, by decide +kernel⟩, by decide⟩
theorem wd_317 : Cond.instanceMethod yX7_figures ∈ pt_tbl := pt_tbl_in (List.mem_of_getElem? (i := 905) (by decide +kernel)) rfl
theorem wd_318 : Cond.selects RX7 yX7_figures yX7_figures ∈ pt_tbl := pt_tbl_in (List.mem_of_getElem? (i := 32) (by decide +kernel)) rfl
theorem iv_105 : Cond.instanceMethod yX7_figures ∈ pt_tbl ∧ Cond.selects RX7 yX7_figures yX7_figures ∈ pt_tbl := ⟨wd_317, wd_318⟩
theorem wd_319 : Cond.methodLink RX7 128 yX7_must ∈ pt_tbl := pt_tbl_in (List.mem_of_getElem? (i := 895) (by decide +kernel)) rfl
theorem cw_103 : pt_cW mm_103 1 := ⟨(List.mem_of_getElem? (i := 898) (by decide +kernel)), wd_277, ⟨by decide +kernel, by decide +kernel, by decide +kernel⟩, by decide⟩
theorem wd_320 : Cond.instanceMethod yX7_must ∈ pt_tbl := pt_tbl_in (List.mem_of_getElem? (i := 897) (by decide +kernel)) rfl
theorem wd_321 : Cond.selects RX7 yX7_must yX7_must ∈ pt_tbl := pt_tbl_in (List.mem_of_getElem? (i := 30) (by decide +kernel)) rfl
theorem iv_103 : Cond.instanceMethod yX7_must ∈ pt_tbl ∧ Cond.selects RX7 yX7_must yX7_must ∈ pt_tbl := ⟨wd_320, wd_321⟩
theorem wd_322 : Cond.constantLong RX7 132 482854660462 ∈ pt_tbl := pt_tbl_in (List.mem_of_getElem? (i := 919) (by decide +kernel)) rfl
theorem wd_323 : Cond.constantLong RX7 134 426953501796 ∈ pt_tbl := pt_tbl_in (List.mem_of_getElem? (i := 920) (by decide +kernel)) rfl
theorem wd_324 : Cond.constantLong RX7 136 7823736 ∈ pt_tbl := pt_tbl_in (List.mem_of_getElem? (i := 921) (by decide +kernel)) rfl
theorem wd_325 : Cond.constantLong RX7 138 439788922226 ∈ pt_tbl := pt_tbl_in (List.mem_of_getElem? (i := 922) (by decide +kernel)) rfl
theorem wd_326 : Cond.constantLong RX7 140 32478922518847858 ∈ pt_tbl := pt_tbl_in (List.mem_of_getElem? (i := 923) (by decide +kernel)) rfl
theorem wd_327 : Cond.fieldLink RX7 22 (TX7 6).1 (TX7 6).2.1 (TX7 6).2.2.1 ∈ pt_tbl := pt_tbl_in (List.mem_of_getElem? (i := 735) (by decide +kernel)) rfl
theorem wd_328 : Cond.methodLink RX7 142 yX7_begins ∈ pt_tbl := pt_tbl_in (List.mem_of_getElem? (i := 891) (by decide +kernel)) rfl
theorem cw_109 : pt_cW mm_109 2 := ⟨(List.mem_of_getElem? (i := 894) (by decide +kernel)), wd_277, ⟨by decide +kernel, by decide +kernel, by decide +kernel⟩, by decide⟩
theorem wd_329 : Cond.instanceMethod yX7_begins ∈ pt_tbl := pt_tbl_in (List.mem_of_getElem? (i := 893) (by decide +kernel)) rfl
theorem wd_330 : Cond.selects RX7 yX7_begins yX7_begins ∈ pt_tbl := pt_tbl_in (List.mem_of_getElem? (i := 29) (by decide +kernel)) rfl
theorem iv_109 : Cond.instanceMethod yX7_begins ∈ pt_tbl ∧ Cond.selects RX7 yX7_begins yX7_begins ∈ pt_tbl := ⟨wd_329, wd_330⟩
theorem wd_331 : Cond.methodLink RX7 146 yX7_number ∈ pt_tbl := pt_tbl_in (List.mem_of_getElem? (i := 899) (by decide +kernel)) rfl
theorem cw_106 : pt_cW mm_106 2 := ⟨(List.mem_of_getElem? (i := 902) (by decide +kernel)), wd_277, ⟨by decide +kernel, by decide +kernel, by decide +kernel⟩, by decide⟩
theorem wd_332 : Cond.instanceMethod yX7_number ∈ pt_tbl := pt_tbl_in (List.mem_of_getElem? (i := 901) (by decide +kernel)) rfl
theorem wd_333 : Cond.selects RX7 yX7_number yX7_number ∈ pt_tbl := pt_tbl_in (List.mem_of_getElem? (i := 31) (by decide +kernel)) rfl
theorem iv_106 : Cond.instanceMethod yX7_number ∈ pt_tbl ∧ Cond.selects RX7 yX7_number yX7_number ∈ pt_tbl := ⟨wd_332, wd_333⟩
theorem wd_334 : Cond.methodLink RX7 150 yX7_mustEnd ∈ pt_tbl := pt_tbl_in (List.mem_of_getElem? (i := 907) (by decide +kernel)) rfl
theorem cw_108 : pt_cW mm_108 0 := ⟨(List.mem_of_getElem? (i := 910) (by decide +kernel)), wd_277, ⟨by decide +kernel, by decide +kernel, by decide +kernel⟩, by decide⟩
theorem wd_335 : Cond.instanceMethod yX7_mustEnd ∈ pt_tbl := pt_tbl_in (List.mem_of_getElem? (i := 909) (by decide +kernel)) rfl
theorem wd_336 : Cond.selects RX7 yX7_mustEnd yX7_mustEnd ∈ pt_tbl := pt_tbl_in (List.mem_of_getElem? (i := 33) (by decide +kernel)) rfl
theorem iv_108 : Cond.instanceMethod yX7_mustEnd ∈ pt_tbl ∧ Cond.selects RX7 yX7_mustEnd yX7_mustEnd ∈ pt_tbl := ⟨wd_335, wd_336⟩
theorem wd_337 : Cond.methodLink RX7 153 yX7_name ∈ pt_tbl := pt_tbl_in (List.mem_of_getElem? (i := 878) (by decide +kernel)) rfl
theorem cw_104 : pt_cW mm_104 0 := ⟨(List.mem_of_getElem? (i := 881) (by decide +kernel)), wd_277, ⟨by decide +kernel, by decide +kernel, by decide +kernel⟩, by decide⟩
theorem wd_338 : Cond.instanceMethod yX7_name ∈ pt_tbl := pt_tbl_in (List.mem_of_getElem? (i := 880) (by decide +kernel)) rfl
theorem wd_339 : Cond.selects RX7 yX7_name yX7_name ∈ pt_tbl := pt_tbl_in (List.mem_of_getElem? (i := 26) (by decide +kernel)) rfl
theorem iv_104 : Cond.instanceMethod yX7_name ∈ pt_tbl ∧ Cond.selects RX7 yX7_name yX7_name ∈ pt_tbl := ⟨wd_338, wd_339⟩
theorem wd_340 : Cond.methodLink RX7 157 yX7_kindBy ∈ pt_tbl := pt_tbl_in (List.mem_of_getElem? (i := 916) (by decide +kernel)) rfl
theorem cw_107 : pt_cW mm_107 1 := ⟨(List.mem_of_getElem? (i := 918) (by decide +kernel)), wd_277, ⟨by decide +kernel, by decide +kernel, by decide +kernel⟩, by decide⟩
theorem wd_341 : Cond.static yX7_kindBy ∈ pt_tbl := pt_tbl_in (List.mem_of_getElem? (i := 917) (by decide +kernel)) rfl
theorem sv_107 : Cond.static yX7_kindBy ∈ pt_tbl := wd_341
theorem wd_342 : Cond.methodLink RX7 161 yX7_begin ∈ pt_tbl := pt_tbl_in (List.mem_of_getElem? (i := 859) (by decide +kernel)) rfl
theorem cw_101 : pt_cW mm_101 0 := ⟨(List.mem_of_getElem? (i := 862) (by decide +kernel)), wd_277, ⟨by decide +kernel, by decide +kernel, by decide +kernel⟩, by decide⟩
theorem wd_343 : Cond.instanceMethod yX7_begin ∈ pt_tbl := pt_tbl_in (List.mem_of_getElem? (i := 861) (by decide +kernel)) rfl
theorem wd_344 : Cond.selects RX7 yX7_begin yX7_begin ∈ pt_tbl := pt_tbl_in (List.mem_of_getElem? (i := 23) (by decide +kernel)) rfl
theorem iv_101 : Cond.instanceMethod yX7_begin ∈ pt_tbl ∧ Cond.selects RX7 yX7_begin yX7_begin ∈ pt_tbl := ⟨wd_343, wd_344⟩
theorem wd_345 : Cond.constantLong RX7 164 2002873452 ∈ pt_tbl := pt_tbl_in (List.mem_of_getElem? (i := 882) (by decide +kernel)) rfl
theorem wd_346 : Cond.methodLink RX7 166 yX7_readWall ∈ pt_tbl := pt_tbl_in (List.mem_of_getElem? (i := 887) (by decide +kernel)) rfl
theorem cw_110 : pt_cW mm_110 0 := ⟨(List.mem_of_getElem? (i := 890) (by decide +kernel)), wd_277, ⟨by decide +kernel, by decide +kernel, by decide +kernel⟩, by decide⟩
theorem wd_347 : Cond.instanceMethod yX7_readWall ∈ pt_tbl := pt_tbl_in (List.mem_of_getElem? (i := 889) (by decide +kernel)) rfl
theorem wd_348 : Cond.selects RX7 yX7_readWall yX7_readWall ∈ pt_tbl := pt_tbl_in (List.mem_of_getElem? (i := 28) (by decide +kernel)) rfl
theorem iv_110 : Cond.instanceMethod yX7_readWall ∈ pt_tbl ∧ Cond.selects RX7 yX7_readWall yX7_readWall ∈ pt_tbl := ⟨wd_347, wd_348⟩
theorem wd_349 : Cond.constantLong RX7 169 125779751232882 ∈ pt_tbl := pt_tbl_in (List.mem_of_getElem? (i := 911) (by decide +kernel)) rfl
theorem wd_350 : Cond.methodLink RX7 171 yX7_readReader ∈ pt_tbl := pt_tbl_in (List.mem_of_getElem? (i := 912) (by decide +kernel)) rfl
theorem cw_111 : pt_cW mm_111 0 := ⟨(List.mem_of_getElem? (i := 915) (by decide +kernel)), wd_277, ⟨by decide +kernel, by decide +kernel, by decide +kernel⟩, by decide⟩
theorem wd_351 : Cond.instanceMethod yX7_readReader ∈ pt_tbl := pt_tbl_in (List.mem_of_getElem? (i := 914) (by decide +kernel)) rfl
theorem wd_352 : Cond.selects RX7 yX7_readReader yX7_readReader ∈ pt_tbl := pt_tbl_in (List.mem_of_getElem? (i := 34) (by decide +kernel)) rfl
theorem iv_111 : Cond.instanceMethod yX7_readReader ∈ pt_tbl ∧ Cond.selects RX7 yX7_readReader yX7_readReader ∈ pt_tbl := ⟨wd_351, wd_352⟩
theorem wd_353 : Cond.fieldLink RX7 174 (TX7 11).1 (TX7 11).2.1 (TX7 11).2.2.1 ∈ pt_tbl := pt_tbl_in (List.mem_of_getElem? (i := 740) (by decide +kernel)) rfl
theorem wd_354 : Cond.constant RX7 177 (-1000100) ∈ pt_tbl := pt_tbl_in (List.mem_of_getElem? (i := 924) (by decide +kernel)) rfl
theorem wd_355 : Cond.fieldLink RX7 178 (TX7 8).1 (TX7 8).2.1 (TX7 8).2.2.1 ∈ pt_tbl := pt_tbl_in (List.mem_of_getElem? (i := 737) (by decide +kernel)) rfl
theorem wd_356 : Cond.fieldLink RX7 19 (TX7 5).1 (TX7 5).2.1 (TX7 5).2.2.1 ∈ pt_tbl := pt_tbl_in (List.mem_of_getElem? (i := 734) (by decide +kernel)) rfl
theorem wd_357 : Cond.constantLong RX7 181 4 ∈ pt_tbl := pt_tbl_in (List.mem_of_getElem? (i := 940) (by decide +kernel)) rfl
theorem wd_358 : Cond.methodLink RX7 183 yX7_isReader ∈ pt_tbl := pt_tbl_in (List.mem_of_getElem? (i := 968) (by decide +kernel)) rfl
theorem cw_116 : pt_cW mm_116 1 := ⟨(List.mem_of_getElem? (i := 971) (by decide +kernel)), wd_277, ⟨by decide +kernel, by decide +kernel, by decide +kernel⟩, by decide⟩
theorem wd_359 : Cond.instanceMethod yX7_isReader ∈ pt_tbl := pt_tbl_in (List.mem_of_getElem? (i := 970) (by decide +kernel)) rfl
theorem wd_360 : Cond.selects RX7 yX7_isReader yX7_isReader ∈ pt_tbl := pt_tbl_in (List.mem_of_getElem? (i := 40) (by decide +kernel)) rfl
theorem iv_116 : Cond.instanceMethod yX7_isReader ∈ pt_tbl ∧ Cond.selects RX7 yX7_isReader yX7_isReader ∈ pt_tbl := ⟨wd_359, wd_360⟩
theorem wd_361 : Cond.methodLink RX7 186 yX7_isWall ∈ pt_tbl := pt_tbl_in (List.mem_of_getElem? (i := 933) (by decide +kernel)) rfl
theorem cw_115 : pt_cW mm_115 1 := ⟨(List.mem_of_getElem? (i := 936) (by decide +kernel)), wd_277, ⟨by decide +kernel, by decide +kernel, by decide +kernel⟩, by decide⟩
theorem wd_362 : Cond.instanceMethod yX7_isWall ∈ pt_tbl := pt_tbl_in (List.mem_of_getElem? (i := 935) (by decide +kernel)) rfl
theorem wd_363 : Cond.selects RX7 yX7_isWall yX7_isWall ∈ pt_tbl := pt_tbl_in (List.mem_of_getElem? (i := 35) (by decide +kernel)) rfl
theorem iv_115 : Cond.instanceMethod yX7_isWall ∈ pt_tbl ∧ Cond.selects RX7 yX7_isWall yX7_isWall ∈ pt_tbl := ⟨wd_362, wd_363⟩
theorem wd_364 : Cond.methodLink RX7 189 yX7_of ∈ pt_tbl := pt_tbl_in (List.mem_of_getElem? (i := 976) (by decide +kernel)) rfl
theorem cw_119 : pt_cW mm_119 2 := ⟨(List.mem_of_getElem? (i := 979) (by decide +kernel)), wd_277, ⟨by decide +kernel, by decide +kernel, by decide +kernel⟩, by decide⟩
theorem wd_365 : Cond.instanceMethod yX7_of ∈ pt_tbl := pt_tbl_in (List.mem_of_getElem? (i := 978) (by decide +kernel)) rfl
theorem wd_366 : Cond.selects RX7 yX7_of yX7_of ∈ pt_tbl := pt_tbl_in (List.mem_of_getElem? (i := 42) (by decide +kernel)) rfl
theorem iv_119 : Cond.instanceMethod yX7_of ∈ pt_tbl ∧ Cond.selects RX7 yX7_of yX7_of ∈ pt_tbl := ⟨wd_365, wd_366⟩
theorem wd_367 : Cond.fieldLink RX7 192 (TX7 19).1 (TX7 19).2.1 (TX7 19).2.2.1 ∈ pt_tbl := pt_tbl_in (List.mem_of_getElem? (i := 748) (by decide +kernel)) rfl
theorem wd_368 : Cond.fieldLink RX7 31 (TX7 20).1 (TX7 20).2.1 (TX7 20).2.2.1 ∈ pt_tbl := pt_tbl_in (List.mem_of_getElem? (i := 749) (by decide +kernel)) rfl
theorem wd_369 : Cond.fieldLink RX7 195 (TX7 21).1 (TX7 21).2.1 (TX7 21).2.2.1 ∈ pt_tbl := pt_tbl_in (List.mem_of_getElem? (i := 750) (by decide +kernel)) rfl
theorem wd_370 : Cond.methodLink RX7 198 yX7_strong ∈ pt_tbl := pt_tbl_in (List.mem_of_getElem? (i := 946) (by decide +kernel)) rfl
theorem cw_120 : pt_cW mm_120 2 := ⟨(List.mem_of_getElem? (i := 949) (by decide +kernel)), wd_277, ⟨by decide +kernel, by decide +kernel, by decide +kernel⟩, by decide⟩
theorem wd_371 : Cond.instanceMethod yX7_strong ∈ pt_tbl := pt_tbl_in (List.mem_of_getElem? (i := 948) (by decide +kernel)) rfl
theorem wd_372 : Cond.selects RX7 yX7_strong yX7_strong ∈ pt_tbl := pt_tbl_in (List.mem_of_getElem? (i := 37) (by decide +kernel)) rfl
theorem iv_120 : Cond.instanceMethod yX7_strong ∈ pt_tbl ∧ Cond.selects RX7 yX7_strong yX7_strong ∈ pt_tbl := ⟨wd_371, wd_372⟩
theorem wd_373 : Cond.methodLink RX7 201 yX7_feels ∈ pt_tbl := pt_tbl_in (List.mem_of_getElem? (i := 990) (by decide +kernel)) rfl
theorem cw_122 : pt_cW mm_122 2 := ⟨(List.mem_of_getElem? (i := 993) (by decide +kernel)), wd_277, ⟨by decide +kernel, by decide +kernel, by decide +kernel⟩, by decide⟩
theorem wd_374 : Cond.instanceMethod yX7_feels ∈ pt_tbl := pt_tbl_in (List.mem_of_getElem? (i := 992) (by decide +kernel)) rfl
theorem wd_375 : Cond.selects RX7 yX7_feels yX7_feels ∈ pt_tbl := pt_tbl_in (List.mem_of_getElem? (i := 44) (by decide +kernel)) rfl
theorem iv_122 : Cond.instanceMethod yX7_feels ∈ pt_tbl ∧ Cond.selects RX7 yX7_feels yX7_feels ∈ pt_tbl := ⟨wd_374, wd_375⟩
theorem wd_376 : Cond.fieldLink RX7 25 (TX7 7).1 (TX7 7).2.1 (TX7 7).2.2.1 ∈ pt_tbl := pt_tbl_in (List.mem_of_getElem? (i := 736) (by decide +kernel)) rfl
theorem wd_377 : Cond.methodLink RX7 204 yX7_isFlavour ∈ pt_tbl := pt_tbl_in (List.mem_of_getElem? (i := 937) (by decide +kernel)) rfl
theorem cw_117 : pt_cW mm_117 1 := ⟨(List.mem_of_getElem? (i := 939) (by decide +kernel)), wd_277, ⟨by decide +kernel, by decide +kernel, by decide +kernel⟩, by decide⟩
theorem wd_378 : Cond.static yX7_isFlavour ∈ pt_tbl := pt_tbl_in (List.mem_of_getElem? (i := 938) (by decide +kernel)) rfl
theorem sv_117 : Cond.static yX7_isFlavour ∈ pt_tbl := wd_378
theorem wd_379 : Cond.constantLong RX7 207 30 ∈ pt_tbl := pt_tbl_in (List.mem_of_getElem? (i := 941) (by decide +kernel)) rfl
theorem wd_380 : Cond.methodLink RX7 209 yX7_keep ∈ pt_tbl := pt_tbl_in (List.mem_of_getElem? (i := 942) (by decide +kernel)) rfl
theorem cw_128 : pt_cW mm_128 0 := ⟨(List.mem_of_getElem? (i := 945) (by decide +kernel)), wd_277, ⟨by decide +kernel, by decide +kernel, by decide +kernel⟩, by decide⟩
theorem wd_381 : Cond.instanceMethod yX7_keep ∈ pt_tbl := pt_tbl_in (List.mem_of_getElem? (i := 944) (by decide +kernel)) rfl
theorem wd_382 : Cond.selects RX7 yX7_keep yX7_keep ∈ pt_tbl := pt_tbl_in (List.mem_of_getElem? (i := 36) (by decide +kernel)) rfl
theorem iv_128 : Cond.instanceMethod yX7_keep ∈ pt_tbl ∧ Cond.selects RX7 yX7_keep yX7_keep ∈ pt_tbl := ⟨wd_381, wd_382⟩
theorem wd_383 : Cond.methodLink RX7 212 yX7_isThere ∈ pt_tbl := pt_tbl_in (List.mem_of_getElem? (i := 954) (by decide +kernel)) rfl
theorem cw_114 : pt_cW mm_114 0 := ⟨(List.mem_of_getElem? (i := 957) (by decide +kernel)), wd_277, ⟨by decide +kernel, by decide +kernel, by decide +kernel⟩, by decide⟩
theorem wd_384 : Cond.instanceMethod yX7_isThere ∈ pt_tbl := pt_tbl_in (List.mem_of_getElem? (i := 956) (by decide +kernel)) rfl
theorem wd_385 : Cond.selects RX7 yX7_isThere yX7_isThere ∈ pt_tbl := pt_tbl_in (List.mem_of_getElem? (i := 38) (by decide +kernel)) rfl
theorem iv_114 : Cond.instanceMethod yX7_isThere ∈ pt_tbl ∧ Cond.selects RX7 yX7_isThere yX7_isThere ∈ pt_tbl := ⟨wd_384, wd_385⟩
theorem wd_386 : Cond.constant RX7 216 (-1000002) ∈ pt_tbl := pt_tbl_in (List.mem_of_getElem? (i := 958) (by decide +kernel)) rfl
theorem wd_387 : Cond.constantLong RX7 217 5 ∈ pt_tbl := pt_tbl_in (List.mem_of_getElem? (i := 959) (by decide +kernel)) rfl
theorem wd_388 : Cond.methodLink RX7 219 yX7_isWalk ∈ pt_tbl := pt_tbl_in (List.mem_of_getElem? (i := 964) (by decide +kernel)) rfl
theorem cw_118 : pt_cW mm_118 3 := ⟨(List.mem_of_getElem? (i := 967) (by decide +kernel)), wd_277, ⟨by decide +kernel, by decide +kernel, by decide +kernel⟩, by decide⟩
theorem wd_389 : Cond.instanceMethod yX7_isWalk ∈ pt_tbl := pt_tbl_in (List.mem_of_getElem? (i := 966) (by decide +kernel)) rfl
theorem wd_390 : Cond.selects RX7 yX7_isWalk yX7_isWalk ∈ pt_tbl := pt_tbl_in (List.mem_of_getElem? (i := 39) (by decide +kernel)) rfl
theorem iv_118 : Cond.instanceMethod yX7_isWalk ∈ pt_tbl ∧ Cond.selects RX7 yX7_isWalk yX7_isWalk ∈ pt_tbl := ⟨wd_389, wd_390⟩
theorem wd_391 : Cond.methodLink RX7 223 yX7_layPalm ∈ pt_tbl := pt_tbl_in (List.mem_of_getElem? (i := 972) (by decide +kernel)) rfl
theorem cw_121 : pt_cW mm_121 1 := ⟨(List.mem_of_getElem? (i := 975) (by decide +kernel)), wd_277, ⟨by decide +kernel, by decide +kernel, by decide +kernel⟩, by decide⟩
theorem wd_392 : Cond.instanceMethod yX7_layPalm ∈ pt_tbl := pt_tbl_in (List.mem_of_getElem? (i := 974) (by decide +kernel)) rfl
theorem wd_393 : Cond.selects RX7 yX7_layPalm yX7_layPalm ∈ pt_tbl := pt_tbl_in (List.mem_of_getElem? (i := 41) (by decide +kernel)) rfl
theorem iv_121 : Cond.instanceMethod yX7_layPalm ∈ pt_tbl ∧ Cond.selects RX7 yX7_layPalm yX7_layPalm ∈ pt_tbl := ⟨wd_392, wd_393⟩
theorem wd_394 : Cond.methodLink RX7 226 yX7_wallsOf ∈ pt_tbl := pt_tbl_in (List.mem_of_getElem? (i := 980) (by decide +kernel)) rfl
theorem cw_126 : pt_cW mm_126 2 := ⟨(List.mem_of_getElem? (i := 982) (by decide +kernel)), wd_277, ⟨by decide +kernel, by decide +kernel, by decide +kernel⟩, by decide⟩
theorem wd_395 : Cond.static yX7_wallsOf ∈ pt_tbl := pt_tbl_in (List.mem_of_getElem? (i := 981) (by decide +kernel)) rfl
theorem sv_126 : Cond.static yX7_wallsOf ∈ pt_tbl := wd_395
theorem wd_396 : Cond.methodLink RX7 229 yX7_wallAt ∈ pt_tbl := pt_tbl_in (List.mem_of_getElem? (i := 983) (by decide +kernel)) rfl
theorem cw_127 : pt_cW mm_127 3 := ⟨(List.mem_of_getElem? (i := 985) (by decide +kernel)), wd_277, ⟨by decide +kernel, by decide +kernel, by decide +kernel⟩, by decide⟩
theorem wd_397 : Cond.static yX7_wallAt ∈ pt_tbl := pt_tbl_in (List.mem_of_getElem? (i := 984) (by decide +kernel)) rfl
theorem sv_127 : Cond.static yX7_wallAt ∈ pt_tbl := wd_397
theorem wd_398 : Cond.methodLink RX7 233 yX7_tastes ∈ pt_tbl := pt_tbl_in (List.mem_of_getElem? (i := 986) (by decide +kernel)) rfl
theorem cw_123 : pt_cW mm_123 3 := ⟨(List.mem_of_getElem? (i := 989) (by decide +kernel)), wd_277, ⟨by decide +kernel, by decide +kernel, by decide +kernel⟩, by decide⟩
theorem wd_399 : Cond.instanceMethod yX7_tastes ∈ pt_tbl := pt_tbl_in (List.mem_of_getElem? (i := 988) (by decide +kernel)) rfl
theorem wd_400 : Cond.selects RX7 yX7_tastes yX7_tastes ∈ pt_tbl := pt_tbl_in (List.mem_of_getElem? (i := 43) (by decide +kernel)) rfl
theorem iv_123 : Cond.instanceMethod yX7_tastes ∈ pt_tbl ∧ Cond.selects RX7 yX7_tastes yX7_tastes ∈ pt_tbl := ⟨wd_399, wd_400⟩
theorem wd_401 : Cond.methodLink RX7 236 yX7_getsUsed ∈ pt_tbl := pt_tbl_in (List.mem_of_getElem? (i := 994) (by decide +kernel)) rfl
theorem cw_125 : pt_cW mm_125 1 := ⟨(List.mem_of_getElem? (i := 997) (by decide +kernel)), wd_277, ⟨by decide +kernel, by decide +kernel, by decide +kernel⟩, by decide⟩
theorem wd_402 : Cond.instanceMethod yX7_getsUsed ∈ pt_tbl := pt_tbl_in (List.mem_of_getElem? (i := 996) (by decide +kernel)) rfl
theorem wd_403 : Cond.selects RX7 yX7_getsUsed yX7_getsUsed ∈ pt_tbl := pt_tbl_in (List.mem_of_getElem? (i := 45) (by decide +kernel)) rfl
theorem iv_125 : Cond.instanceMethod yX7_getsUsed ∈ pt_tbl ∧ Cond.selects RX7 yX7_getsUsed yX7_getsUsed ∈ pt_tbl := ⟨wd_402, wd_403⟩
theorem wd_404 : Cond.methodLink RX7 239 yX7_usedOf ∈ pt_tbl := pt_tbl_in (List.mem_of_getElem? (i := 1002) (by decide +kernel)) rfl
theorem cw_132 : pt_cW mm_132 1 := ⟨(List.mem_of_getElem? (i := 1005) (by decide +kernel)), wd_277, ⟨by decide +kernel, by decide +kernel, by decide +kernel⟩, by decide⟩
theorem wd_405 : Cond.instanceMethod yX7_usedOf ∈ pt_tbl := pt_tbl_in (List.mem_of_getElem? (i := 1004) (by decide +kernel)) rfl
theorem wd_406 : Cond.selects RX7 yX7_usedOf yX7_usedOf ∈ pt_tbl := pt_tbl_in (List.mem_of_getElem? (i := 46) (by decide +kernel)) rfl
theorem iv_132 : Cond.instanceMethod yX7_usedOf ∈ pt_tbl ∧ Cond.selects RX7 yX7_usedOf yX7_usedOf ∈ pt_tbl := ⟨wd_405, wd_406⟩
theorem wd_407 : Cond.methodLink RX7 242 yX7_reads ∈ pt_tbl := pt_tbl_in (List.mem_of_getElem? (i := 1026) (by decide +kernel)) rfl
theorem cw_124 : pt_cW mm_124 1 := ⟨(List.mem_of_getElem? (i := 1029) (by decide +kernel)), wd_277, ⟨by decide +kernel, by decide +kernel, by decide +kernel⟩, by decide⟩
theorem wd_408 : Cond.instanceMethod yX7_reads ∈ pt_tbl := pt_tbl_in (List.mem_of_getElem? (i := 1028) (by decide +kernel)) rfl
theorem wd_409 : Cond.selects RX7 yX7_reads yX7_reads ∈ pt_tbl := pt_tbl_in (List.mem_of_getElem? (i := 47) (by decide +kernel)) rfl
theorem iv_124 : Cond.instanceMethod yX7_reads ∈ pt_tbl ∧ Cond.selects RX7 yX7_reads yX7_reads ∈ pt_tbl := ⟨wd_408, wd_409⟩
theorem wd_410 : Cond.methodLink RX7 245 yX7_barred ∈ pt_tbl := pt_tbl_in (List.mem_of_getElem? (i := 1034) (by decide +kernel)) rfl
theorem cw_139 : pt_cW mm_139 3 := ⟨(List.mem_of_getElem? (i := 1037) (by decide +kernel)), wd_277, ⟨by decide +kernel, by decide +kernel, by decide +kernel⟩, by decide⟩
theorem wd_411 : Cond.instanceMethod yX7_barred ∈ pt_tbl := pt_tbl_in (List.mem_of_getElem? (i := 1036) (by decide +kernel)) rfl
theorem wd_412 : Cond.selects RX7 yX7_barred yX7_barred ∈ pt_tbl := pt_tbl_in (List.mem_of_getElem? (i := 48) (by decide +kernel)) rfl
theorem iv_139 : Cond.instanceMethod yX7_barred ∈ pt_tbl ∧ Cond.selects RX7 yX7_barred yX7_barred ∈ pt_tbl := ⟨wd_411, wd_412⟩
theorem wd_413 : Cond.fieldLink RX7 34 (TX7 22).1 (TX7 22).2.1 (TX7 22).2.2.1 ∈ pt_tbl := pt_tbl_in (List.mem_of_getElem? (i := 751) (by decide +kernel)) rfl
theorem wd_414 : Cond.fieldLink RX7 37 (TX7 23).1 (TX7 23).2.1 (TX7 23).2.2.1 ∈ pt_tbl := pt_tbl_in (List.mem_of_getElem? (i := 752) (by decide +kernel)) rfl
theorem wd_415 : Cond.methodLink RX7 248 yX7_laySpice ∈ pt_tbl := pt_tbl_in (List.mem_of_getElem? (i := 1046) (by decide +kernel)) rfl
theorem cw_142 : pt_cW mm_142 5 := ⟨(List.mem_of_getElem? (i := 1049) (by decide +kernel)), wd_277, ⟨by decide +kernel, by decide +kernel, by decide +kernel⟩, by decide⟩
theorem wd_416 : Cond.instanceMethod yX7_laySpice ∈ pt_tbl := pt_tbl_in (List.mem_of_getElem? (i := 1048) (by decide +kernel)) rfl
theorem wd_417 : Cond.selects RX7 yX7_laySpice yX7_laySpice ∈ pt_tbl := pt_tbl_in (List.mem_of_getElem? (i := 49) (by decide +kernel)) rfl
theorem iv_142 : Cond.instanceMethod yX7_laySpice ∈ pt_tbl ∧ Cond.selects RX7 yX7_laySpice yX7_laySpice ∈ pt_tbl := ⟨wd_416, wd_417⟩
theorem wd_418 : Cond.fieldLink RX7 40 (TX7 24).1 (TX7 24).2.1 (TX7 24).2.2.1 ∈ pt_tbl := pt_tbl_in (List.mem_of_getElem? (i := 753) (by decide +kernel)) rfl
theorem wd_419 : Cond.constant RX7 252 43210 ∈ pt_tbl := pt_tbl_in (List.mem_of_getElem? (i := 1058) (by decide +kernel)) rfl
theorem wd_420 : Cond.methodLink RX7 253 yX7_isOrder ∈ pt_tbl := pt_tbl_in (List.mem_of_getElem? (i := 1059) (by decide +kernel)) rfl
theorem cw_146 : pt_cW mm_146 1 := ⟨(List.mem_of_getElem? (i := 1061) (by decide +kernel)), wd_277, ⟨by decide +kernel, by decide +kernel, by decide +kernel⟩, by decide⟩
theorem wd_421 : Cond.static yX7_isOrder ∈ pt_tbl := pt_tbl_in (List.mem_of_getElem? (i := 1060) (by decide +kernel)) rfl
theorem sv_146 : Cond.static yX7_isOrder ∈ pt_tbl := wd_421
theorem wd_422 : Cond.methodLink RX7 256 yX7_goes ∈ pt_tbl := pt_tbl_in (List.mem_of_getElem? (i := 1062) (by decide +kernel)) rfl
theorem cw_145 : pt_cW mm_145 3 := ⟨(List.mem_of_getElem? (i := 1065) (by decide +kernel)), wd_277, ⟨by decide +kernel, by decide +kernel, by decide +kernel⟩, by decide⟩
theorem wd_423 : Cond.instanceMethod yX7_goes ∈ pt_tbl := pt_tbl_in (List.mem_of_getElem? (i := 1064) (by decide +kernel)) rfl
theorem wd_424 : Cond.selects RX7 yX7_goes yX7_goes ∈ pt_tbl := pt_tbl_in (List.mem_of_getElem? (i := 50) (by decide +kernel)) rfl
theorem iv_145 : Cond.instanceMethod yX7_goes ∈ pt_tbl ∧ Cond.selects RX7 yX7_goes yX7_goes ∈ pt_tbl := ⟨wd_423, wd_424⟩
theorem wd_425 : Cond.constantLong RX7 259 20 ∈ pt_tbl := pt_tbl_in (List.mem_of_getElem? (i := 1070) (by decide +kernel)) rfl
theorem wd_426 : Cond.constantLong RX7 261 99 ∈ pt_tbl := pt_tbl_in (List.mem_of_getElem? (i := 1075) (by decide +kernel)) rfl
theorem wd_427 : Cond.fieldLink RX7 47 (TX7 26).1 (TX7 26).2.1 (TX7 26).2.2.1 ∈ pt_tbl := pt_tbl_in (List.mem_of_getElem? (i := 755) (by decide +kernel)) rfl
theorem wd_428 : Cond.fieldLink RX7 43 (TX7 25).1 (TX7 25).2.1 (TX7 25).2.2.1 ∈ pt_tbl := pt_tbl_in (List.mem_of_getElem? (i := 754) (by decide +kernel)) rfl
theorem wd_429 : Cond.methodLink RX7 263 yX7_isOf ∈ pt_tbl := pt_tbl_in (List.mem_of_getElem? (i := 1092) (by decide +kernel)) rfl
theorem cw_152 : pt_cW mm_152 2 := ⟨(List.mem_of_getElem? (i := 1094) (by decide +kernel)), wd_277, ⟨by decide +kernel, by decide +kernel, by decide +kernel⟩, by decide⟩
theorem wd_430 : Cond.static yX7_isOf ∈ pt_tbl := pt_tbl_in (List.mem_of_getElem? (i := 1093) (by decide +kernel)) rfl
theorem sv_152 : Cond.static yX7_isOf ∈ pt_tbl := wd_430
theorem wd_431 : Cond.fieldLink RX7 267 (TX7 28).1 (TX7 28).2.1 (TX7 28).2.2.1 ∈ pt_tbl := pt_tbl_in (List.mem_of_getElem? (i := 757) (by decide +kernel)) rfl
theorem wd_432 : Cond.fieldLink RX7 50 (TX7 27).1 (TX7 27).2.1 (TX7 27).2.2.1 ∈ pt_tbl := pt_tbl_in (List.mem_of_getElem? (i := 756) (by decide +kernel)) rfl
theorem wd_433 : Cond.methodLink RX7 270 yX7_began ∈ pt_tbl := pt_tbl_in (List.mem_of_getElem? (i := 1107) (by decide +kernel)) rfl
theorem cw_155 : pt_cW mm_155 1 := ⟨(List.mem_of_getElem? (i := 1110) (by decide +kernel)), wd_277, ⟨by decide +kernel, by decide +kernel, by decide +kernel⟩, by decide⟩
theorem wd_434 : Cond.instanceMethod yX7_began ∈ pt_tbl := pt_tbl_in (List.mem_of_getElem? (i := 1109) (by decide +kernel)) rfl
theorem wd_435 : Cond.selects RX7 yX7_began yX7_began ∈ pt_tbl := pt_tbl_in (List.mem_of_getElem? (i := 53) (by decide +kernel)) rfl
theorem iv_155 : Cond.instanceMethod yX7_began ∈ pt_tbl ∧ Cond.selects RX7 yX7_began yX7_began ∈ pt_tbl := ⟨wd_434, wd_435⟩
theorem wd_436 : Cond.methodLink RX7 273 yX7_plainSize ∈ pt_tbl := pt_tbl_in (List.mem_of_getElem? (i := 1111) (by decide +kernel)) rfl
theorem cw_156 : pt_cW mm_156 1 := ⟨(List.mem_of_getElem? (i := 1114) (by decide +kernel)), wd_277, ⟨by decide +kernel, by decide +kernel, by decide +kernel⟩, by decide⟩
theorem wd_437 : Cond.instanceMethod yX7_plainSize ∈ pt_tbl := pt_tbl_in (List.mem_of_getElem? (i := 1113) (by decide +kernel)) rfl
theorem wd_438 : Cond.selects RX7 yX7_plainSize yX7_plainSize ∈ pt_tbl := pt_tbl_in (List.mem_of_getElem? (i := 54) (by decide +kernel)) rfl
theorem iv_156 : Cond.instanceMethod yX7_plainSize ∈ pt_tbl ∧ Cond.selects RX7 yX7_plainSize yX7_plainSize ∈ pt_tbl := ⟨wd_437, wd_438⟩
theorem wd_439 : Cond.methodLink RX7 276 yX7_waxSize ∈ pt_tbl := pt_tbl_in (List.mem_of_getElem? (i := 1103) (by decide +kernel)) rfl
theorem cw_157 : pt_cW mm_157 1 := ⟨(List.mem_of_getElem? (i := 1106) (by decide +kernel)), wd_277, ⟨by decide +kernel, by decide +kernel, by decide +kernel⟩, by decide⟩
theorem wd_440 : Cond.instanceMethod yX7_waxSize ∈ pt_tbl := pt_tbl_in (List.mem_of_getElem? (i := 1105) (by decide +kernel)) rfl
theorem wd_441 : Cond.selects RX7 yX7_waxSize yX7_waxSize ∈ pt_tbl := pt_tbl_in (List.mem_of_getElem? (i := 52) (by decide +kernel)) rfl
theorem iv_157 : Cond.instanceMethod yX7_waxSize ∈ pt_tbl ∧ Cond.selects RX7 yX7_waxSize yX7_waxSize ∈ pt_tbl := ⟨wd_440, wd_441⟩
theorem wd_442 : Cond.methodLink RX7 279 yX7_markOf ∈ pt_tbl := pt_tbl_in (List.mem_of_getElem? (i := 1115) (by decide +kernel)) rfl
theorem cw_158 : pt_cW mm_158 1 := ⟨(List.mem_of_getElem? (i := 1118) (by decide +kernel)), wd_277, ⟨by decide +kernel, by decide +kernel, by decide +kernel⟩, by decide⟩
theorem wd_443 : Cond.instanceMethod yX7_markOf ∈ pt_tbl := pt_tbl_in (List.mem_of_getElem? (i := 1117) (by decide +kernel)) rfl
theorem wd_444 : Cond.selects RX7 yX7_markOf yX7_markOf ∈ pt_tbl := pt_tbl_in (List.mem_of_getElem? (i := 55) (by decide +kernel)) rfl
theorem iv_158 : Cond.instanceMethod yX7_markOf ∈ pt_tbl ∧ Cond.selects RX7 yX7_markOf yX7_markOf ∈ pt_tbl := ⟨wd_443, wd_444⟩
theorem wd_445 : Cond.methodLink RX7 282 yX7_sizeOf ∈ pt_tbl := pt_tbl_in (List.mem_of_getElem? (i := 1099) (by decide +kernel)) rfl
theorem cw_159 : pt_cW mm_159 1 := ⟨(List.mem_of_getElem? (i := 1102) (by decide +kernel)), wd_277, ⟨by decide +kernel, by decide +kernel, by decide +kernel⟩, by decide⟩
theorem wd_446 : Cond.instanceMethod yX7_sizeOf ∈ pt_tbl := pt_tbl_in (List.mem_of_getElem? (i := 1101) (by decide +kernel)) rfl
theorem wd_447 : Cond.selects RX7 yX7_sizeOf yX7_sizeOf ∈ pt_tbl := pt_tbl_in (List.mem_of_getElem? (i := 51) (by decide +kernel)) rfl
theorem iv_159 : Cond.instanceMethod yX7_sizeOf ∈ pt_tbl ∧ Cond.selects RX7 yX7_sizeOf yX7_sizeOf ∈ pt_tbl := ⟨wd_446, wd_447⟩
theorem wd_448 : Cond.fieldLink RJ0 9 RJ0 "value" "[B" ∈ pt_tbl := pt_tbl_in (List.mem_of_getElem? (i := 1132) (by decide +kernel)) rfl
theorem wd_449 : Cond.methodLink RJ0 335 yJ0_coder_7d493 ∈ pt_tbl := pt_tbl_in (List.mem_of_getElem? (i := 374) (by decide +kernel)) rfl
theorem cw_166 : pt_cW mm_166 0 := ⟨(List.mem_of_getElem? (i := 377) (by decide +kernel)), wd_116, ⟨by decide +kernel, by decide +kernel, by decide +kernel⟩, by decide⟩
theorem wd_450 : Cond.instanceMethod yJ0_coder_7d493 ∈ pt_tbl := pt_tbl_in (List.mem_of_getElem? (i := 375) (by decide +kernel)) rfl
theorem wd_451 : Cond.selects RJ0 yJ0_coder_7d493 yJ0_coder_7d493 ∈ pt_tbl := pt_tbl_in (List.mem_of_getElem? (i := 376) (by decide +kernel)) rfl
theorem iv_166 : Cond.instanceMethod yJ0_coder_7d493 ∈ pt_tbl ∧ Cond.selects RJ0 yJ0_coder_7d493 yJ0_coder_7d493 ∈ pt_tbl := ⟨wd_450, wd_451⟩
theorem wd_452 : Cond.methodLink RJ0 492 yJ0_isLatin1_aae02 ∈ pt_tbl := pt_tbl_in (List.mem_of_getElem? (i := 384) (by decide +kernel)) rfl
theorem cw_167 : pt_cW mm_167 0 := ⟨(List.mem_of_getElem? (i := 387) (by decide +kernel)), wd_116, ⟨by decide +kernel, by decide +kernel, by decide +kernel⟩, by decide⟩
theorem wd_453 : Cond.instanceMethod yJ0_isLatin1_aae02 ∈ pt_tbl := pt_tbl_in (List.mem_of_getElem? (i := 385) (by decide +kernel)) rfl
theorem wd_454 : Cond.selects RJ0 yJ0_isLatin1_aae02 yJ0_isLatin1_aae02 ∈ pt_tbl := pt_tbl_in (List.mem_of_getElem? (i := 386) (by decide +kernel)) rfl
theorem iv_167 : Cond.instanceMethod yJ0_isLatin1_aae02 ∈ pt_tbl ∧ Cond.selects RJ0 yJ0_isLatin1_aae02 yJ0_isLatin1_aae02 ∈ pt_tbl := ⟨wd_453, wd_454⟩
theorem wd_455 : Cond.methodLink RJ0 495 yJ1_charAt_3b067 ∈ pt_tbl := pt_tbl_in (List.mem_of_getElem? (i := 388) (by decide +kernel)) rfl
theorem wd_456 : Cond.initialized RJ1 ∈ pt_tbl := pt_tbl_in (List.mem_of_getElem? (i := 68) (by decide +kernel)) rfl
theorem cw_169 : pt_cW mm_169 2 := ⟨(List.mem_of_getElem? (i := 390) (by decide +kernel)), wd_456, ⟨by decide +kernel, by decide +kernel, by decide +kernel⟩, by decide⟩
theorem wd_457 : Cond.static yJ1_charAt_3b067 ∈ pt_tbl := pt_tbl_in (List.mem_of_getElem? (i := 389) (by decide +kernel)) rfl
theorem sv_169 : Cond.static yJ1_charAt_3b067 ∈ pt_tbl := wd_457
theorem wd_458 : Cond.fieldLink RJ0 38 RJ0 "COMPACT_STRINGS" "Z" ∈ pt_tbl := pt_tbl_in (List.mem_of_getElem? (i := 378) (by decide +kernel)) rfl
theorem wd_459 : Cond.fieldLink RJ0 15 RJ0 "coder" "B" ∈ pt_tbl := pt_tbl_in (List.mem_of_getElem? (i := 1133) (by decide +kernel)) rfl
theorem wd_460 : Cond.fieldLink RJ0 1053 RJ3 "SIOOBE_FORMATTER" "Ljava/util/function/BiFunction;" ∈ pt_tbl := pt_tbl_in (List.mem_of_getElem? (i := 394) (by decide +kernel)) rfl
theorem wd_461 : Cond.methodLink RJ0 1059 yJ3_checkIndex_8e157 ∈ pt_tbl := pt_tbl_in (List.mem_of_getElem? (i := 396) (by decide +kernel)) rfl
theorem wd_462 : Cond.initialized RJ3 ∈ pt_tbl := pt_tbl_in (List.mem_of_getElem? (i := 69) (by decide +kernel)) rfl
theorem cw_171 : pt_cW mm_171 3 := ⟨(List.mem_of_getElem? (i := 398) (by decide +kernel)), wd_462, ⟨by decide +kernel, by decide +kernel, by decide +kernel⟩, by decide⟩
theorem wd_463 : Cond.static yJ3_checkIndex_8e157 ∈ pt_tbl := pt_tbl_in (List.mem_of_getElem? (i := 397) (by decide +kernel)) rfl
theorem sv_171 : Cond.static yJ3_checkIndex_8e157 ∈ pt_tbl := wd_463
theorem wd_464 : Cond.methodLink RJ1 9 yJ0_checkIndex_df160 ∈ pt_tbl := pt_tbl_in (List.mem_of_getElem? (i := 391) (by decide +kernel)) rfl
theorem cw_168 : pt_cW mm_168 2 := ⟨(List.mem_of_getElem? (i := 393) (by decide +kernel)), wd_116, ⟨by decide +kernel, by decide +kernel, by decide +kernel⟩, by decide⟩
theorem wd_465 : Cond.static yJ0_checkIndex_df160 ∈ pt_tbl := pt_tbl_in (List.mem_of_getElem? (i := 392) (by decide +kernel)) rfl
theorem sv_168 : Cond.static yJ0_checkIndex_df160 ∈ pt_tbl := wd_465
theorem cw_44 : pt_cW mm_44 3 := ⟨(List.mem_of_getElem? (i := 279) (by decide +kernel)), wd_69, ⟨by decide +kernel, by decide +kernel, by decide +kernel⟩, by decide⟩
theorem wd_466 : Cond.instanceMethod yX6_row ∈ pt_tbl := pt_tbl_in (List.mem_of_getElem? (i := 277) (by decide +kernel)) rfl
theorem wd_467 : Cond.selects RX6 yX6_row yX6_row ∈ pt_tbl := pt_tbl_in (List.mem_of_getElem? (i := 278) (by decide +kernel)) rfl
theorem iv_44 : Cond.instanceMethod yX6_row ∈ pt_tbl ∧ Cond.selects RX6 yX6_row yX6_row ∈ pt_tbl := ⟨wd_466, wd_467⟩
theorem cw_45 : pt_cW mm_45 3 := ⟨(List.mem_of_getElem? (i := 303) (by decide +kernel)), wd_69, ⟨by decide +kernel, by decide +kernel, by decide +kernel⟩, by decide⟩
theorem wd_468 : Cond.instanceMethod yX6_set ∈ pt_tbl := pt_tbl_in (List.mem_of_getElem? (i := 301) (by decide +kernel)) rfl
theorem wd_469 : Cond.selects RX6 yX6_set yX6_set ∈ pt_tbl := pt_tbl_in (List.mem_of_getElem? (i := 302) (by decide +kernel)) rfl
theorem iv_45 : Cond.instanceMethod yX6_set ∈ pt_tbl ∧ Cond.selects RX6 yX6_set yX6_set ∈ pt_tbl := ⟨wd_468, wd_469⟩
theorem cw_46 : pt_cW mm_46 5 := ⟨(List.mem_of_getElem? (i := 315) (by decide +kernel)), wd_69, ⟨by decide +kernel, by decide +kernel, by decide +kernel⟩, by decide⟩
theorem wd_470 : Cond.instanceMethod yX6_copy ∈ pt_tbl := pt_tbl_in (List.mem_of_getElem? (i := 313) (by decide +kernel)) rfl
theorem wd_471 : Cond.selects RX6 yX6_copy yX6_copy ∈ pt_tbl := pt_tbl_in (List.mem_of_getElem? (i := 314) (by decide +kernel)) rfl
theorem iv_46 : Cond.instanceMethod yX6_copy ∈ pt_tbl ∧ Cond.selects RX6 yX6_copy yX6_copy ∈ pt_tbl := ⟨wd_470, wd_471⟩
theorem cw_47 : pt_cW mm_47 1 := ⟨(List.mem_of_getElem? (i := 322) (by decide +kernel)), wd_69, ⟨by decide +kernel, by decide +kernel, by decide +kernel⟩, by decide⟩
theorem wd_472 : Cond.instanceMethod yX6_drop ∈ pt_tbl := pt_tbl_in (List.mem_of_getElem? (i := 320) (by decide +kernel)) rfl
theorem wd_473 : Cond.selects RX6 yX6_drop yX6_drop ∈ pt_tbl := pt_tbl_in (List.mem_of_getElem? (i := 321) (by decide +kernel)) rfl
theorem iv_47 : Cond.instanceMethod yX6_drop ∈ pt_tbl ∧ Cond.selects RX6 yX6_drop yX6_drop ∈ pt_tbl := ⟨wd_472, wd_473⟩
theorem cw_51 : pt_cW mm_51 2 := ⟨(List.mem_of_getElem? (i := 326) (by decide +kernel)), wd_69, ⟨by decide +kernel, by decide +kernel, by decide +kernel⟩, by decide⟩
theorem wd_474 : Cond.instanceMethod yX6_feed ∈ pt_tbl := pt_tbl_in (List.mem_of_getElem? (i := 324) (by decide +kernel)) rfl
theorem wd_475 : Cond.selects RX6 yX6_feed yX6_feed ∈ pt_tbl := pt_tbl_in (List.mem_of_getElem? (i := 325) (by decide +kernel)) rfl
theorem iv_51 : Cond.instanceMethod yX6_feed ∈ pt_tbl ∧ Cond.selects RX6 yX6_feed yX6_feed ∈ pt_tbl := ⟨wd_474, wd_475⟩
theorem cw_52 : pt_cW mm_52 0 := ⟨(List.mem_of_getElem? (i := 335) (by decide +kernel)), wd_69, ⟨by decide +kernel, by decide +kernel, by decide +kernel⟩, by decide⟩
theorem wd_476 : Cond.instanceMethod yX6_street ∈ pt_tbl := pt_tbl_in (List.mem_of_getElem? (i := 333) (by decide +kernel)) rfl
theorem wd_477 : Cond.selects RX6 yX6_street yX6_street ∈ pt_tbl := pt_tbl_in (List.mem_of_getElem? (i := 334) (by decide +kernel)) rfl
theorem iv_52 : Cond.instanceMethod yX6_street ∈ pt_tbl ∧ Cond.selects RX6 yX6_street yX6_street ∈ pt_tbl := ⟨wd_476, wd_477⟩
theorem cw_53 : pt_cW mm_53 0 := ⟨(List.mem_of_getElem? (i := 462) (by decide +kernel)), wd_69, ⟨by decide +kernel, by decide +kernel, by decide +kernel⟩, by decide⟩
theorem wd_478 : Cond.instanceMethod yX6_fault ∈ pt_tbl := pt_tbl_in (List.mem_of_getElem? (i := 460) (by decide +kernel)) rfl
theorem wd_479 : Cond.selects RX6 yX6_fault yX6_fault ∈ pt_tbl := pt_tbl_in (List.mem_of_getElem? (i := 461) (by decide +kernel)) rfl
theorem iv_53 : Cond.instanceMethod yX6_fault ∈ pt_tbl ∧ Cond.selects RX6 yX6_fault yX6_fault ∈ pt_tbl := ⟨wd_478, wd_479⟩
theorem cw_54 : pt_cW mm_54 3 := ⟨(List.mem_of_getElem? (i := 466) (by decide +kernel)), wd_69, ⟨by decide +kernel, by decide +kernel, by decide +kernel⟩, by decide⟩
theorem wd_480 : Cond.instanceMethod yX6_paint ∈ pt_tbl := pt_tbl_in (List.mem_of_getElem? (i := 464) (by decide +kernel)) rfl
theorem wd_481 : Cond.selects RX6 yX6_paint yX6_paint ∈ pt_tbl := pt_tbl_in (List.mem_of_getElem? (i := 465) (by decide +kernel)) rfl
theorem iv_54 : Cond.instanceMethod yX6_paint ∈ pt_tbl ∧ Cond.selects RX6 yX6_paint yX6_paint ∈ pt_tbl := ⟨wd_480, wd_481⟩
theorem cw_55 : pt_cW mm_55 1 := ⟨(List.mem_of_getElem? (i := 493) (by decide +kernel)), wd_69, ⟨by decide +kernel, by decide +kernel, by decide +kernel⟩, by decide⟩
theorem wd_482 : Cond.instanceMethod yX6_day ∈ pt_tbl := pt_tbl_in (List.mem_of_getElem? (i := 491) (by decide +kernel)) rfl
theorem wd_483 : Cond.selects RX6 yX6_day yX6_day ∈ pt_tbl := pt_tbl_in (List.mem_of_getElem? (i := 492) (by decide +kernel)) rfl
theorem iv_55 : Cond.instanceMethod yX6_day ∈ pt_tbl ∧ Cond.selects RX6 yX6_day yX6_day ∈ pt_tbl := ⟨wd_482, wd_483⟩
theorem cw_56 : pt_cW mm_56 3 := ⟨(List.mem_of_getElem? (i := 508) (by decide +kernel)), wd_69, ⟨by decide +kernel, by decide +kernel, by decide +kernel⟩, by decide⟩
theorem wd_484 : Cond.instanceMethod yX6_walk ∈ pt_tbl := pt_tbl_in (List.mem_of_getElem? (i := 506) (by decide +kernel)) rfl
theorem wd_485 : Cond.selects RX6 yX6_walk yX6_walk ∈ pt_tbl := pt_tbl_in (List.mem_of_getElem? (i := 507) (by decide +kernel)) rfl
theorem iv_56 : Cond.instanceMethod yX6_walk ∈ pt_tbl ∧ Cond.selects RX6 yX6_walk yX6_walk ∈ pt_tbl := ⟨wd_484, wd_485⟩
theorem cw_57 : pt_cW mm_57 1 := ⟨(List.mem_of_getElem? (i := 554) (by decide +kernel)), wd_69, ⟨by decide +kernel, by decide +kernel, by decide +kernel⟩, by decide⟩
theorem wd_486 : Cond.instanceMethod yX6_rest ∈ pt_tbl := pt_tbl_in (List.mem_of_getElem? (i := 552) (by decide +kernel)) rfl
theorem wd_487 : Cond.selects RX6 yX6_rest yX6_rest ∈ pt_tbl := pt_tbl_in (List.mem_of_getElem? (i := 553) (by decide +kernel)) rfl
theorem iv_57 : Cond.instanceMethod yX6_rest ∈ pt_tbl ∧ Cond.selects RX6 yX6_rest yX6_rest ∈ pt_tbl := ⟨wd_486, wd_487⟩
theorem cw_58 : pt_cW mm_58 0 := ⟨(List.mem_of_getElem? (i := 567) (by decide +kernel)), wd_69, ⟨by decide +kernel, by decide +kernel, by decide +kernel⟩, by decide⟩
theorem wd_488 : Cond.instanceMethod yX6_undo ∈ pt_tbl := pt_tbl_in (List.mem_of_getElem? (i := 565) (by decide +kernel)) rfl
theorem wd_489 : Cond.selects RX6 yX6_undo yX6_undo ∈ pt_tbl := pt_tbl_in (List.mem_of_getElem? (i := 566) (by decide +kernel)) rfl
theorem iv_58 : Cond.instanceMethod yX6_undo ∈ pt_tbl ∧ Cond.selects RX6 yX6_undo yX6_undo ∈ pt_tbl := ⟨wd_488, wd_489⟩
theorem cw_59 : pt_cW mm_59 2 := ⟨(List.mem_of_getElem? (i := 575) (by decide +kernel)), wd_69, ⟨by decide +kernel, by decide +kernel, by decide +kernel⟩, by decide⟩
theorem wd_490 : Cond.instanceMethod yX6_wall ∈ pt_tbl := pt_tbl_in (List.mem_of_getElem? (i := 573) (by decide +kernel)) rfl
theorem wd_491 : Cond.selects RX6 yX6_wall yX6_wall ∈ pt_tbl := pt_tbl_in (List.mem_of_getElem? (i := 574) (by decide +kernel)) rfl
theorem iv_59 : Cond.instanceMethod yX6_wall ∈ pt_tbl ∧ Cond.selects RX6 yX6_wall yX6_wall ∈ pt_tbl := ⟨wd_490, wd_491⟩
theorem cw_60 : pt_cW mm_60 2 := ⟨(List.mem_of_getElem? (i := 579) (by decide +kernel)), wd_69, ⟨by decide +kernel, by decide +kernel, by decide +kernel⟩, by decide⟩
theorem wd_492 : Cond.instanceMethod yX6_reader ∈ pt_tbl := pt_tbl_in (List.mem_of_getElem? (i := 577) (by decide +kernel)) rfl
theorem wd_493 : Cond.selects RX6 yX6_reader yX6_reader ∈ pt_tbl := pt_tbl_in (List.mem_of_getElem? (i := 578) (by decide +kernel)) rfl
theorem iv_60 : Cond.instanceMethod yX6_reader ∈ pt_tbl ∧ Cond.selects RX6 yX6_reader yX6_reader ∈ pt_tbl := ⟨wd_492, wd_493⟩
theorem cw_61 : pt_cW mm_61 3 := ⟨(List.mem_of_getElem? (i := 583) (by decide +kernel)), wd_69, ⟨by decide +kernel, by decide +kernel, by decide +kernel⟩, by decide⟩
theorem wd_494 : Cond.instanceMethod yX6_felt ∈ pt_tbl := pt_tbl_in (List.mem_of_getElem? (i := 581) (by decide +kernel)) rfl
theorem wd_495 : Cond.selects RX6 yX6_felt yX6_felt ∈ pt_tbl := pt_tbl_in (List.mem_of_getElem? (i := 582) (by decide +kernel)) rfl
theorem iv_61 : Cond.instanceMethod yX6_felt ∈ pt_tbl ∧ Cond.selects RX6 yX6_felt yX6_felt ∈ pt_tbl := ⟨wd_494, wd_495⟩
theorem cw_66 : pt_cW mm_66 4 := ⟨(List.mem_of_getElem? (i := 588) (by decide +kernel)), wd_69, ⟨by decide +kernel, by decide +kernel, by decide +kernel⟩, by decide⟩
theorem wd_496 : Cond.instanceMethod yX6_read ∈ pt_tbl := pt_tbl_in (List.mem_of_getElem? (i := 586) (by decide +kernel)) rfl
theorem wd_497 : Cond.selects RX6 yX6_read yX6_read ∈ pt_tbl := pt_tbl_in (List.mem_of_getElem? (i := 587) (by decide +kernel)) rfl
theorem iv_66 : Cond.instanceMethod yX6_read ∈ pt_tbl ∧ Cond.selects RX6 yX6_read yX6_read ∈ pt_tbl := ⟨wd_496, wd_497⟩
theorem cw_67 : pt_cW mm_67 4 := ⟨(List.mem_of_getElem? (i := 602) (by decide +kernel)), wd_69, ⟨by decide +kernel, by decide +kernel, by decide +kernel⟩, by decide⟩
theorem wd_498 : Cond.instanceMethod yX6_wrong ∈ pt_tbl := pt_tbl_in (List.mem_of_getElem? (i := 600) (by decide +kernel)) rfl
theorem wd_499 : Cond.selects RX6 yX6_wrong yX6_wrong ∈ pt_tbl := pt_tbl_in (List.mem_of_getElem? (i := 601) (by decide +kernel)) rfl
theorem iv_67 : Cond.instanceMethod yX6_wrong ∈ pt_tbl ∧ Cond.selects RX6 yX6_wrong yX6_wrong ∈ pt_tbl := ⟨wd_498, wd_499⟩
theorem cw_68 : pt_cW mm_68 3 := ⟨(List.mem_of_getElem? (i := 610) (by decide +kernel)), wd_69, ⟨by decide +kernel, by decide +kernel, by decide +kernel⟩, by decide⟩
theorem wd_500 : Cond.instanceMethod yX6_often ∈ pt_tbl := pt_tbl_in (List.mem_of_getElem? (i := 608) (by decide +kernel)) rfl
theorem wd_501 : Cond.selects RX6 yX6_often yX6_often ∈ pt_tbl := pt_tbl_in (List.mem_of_getElem? (i := 609) (by decide +kernel)) rfl
theorem iv_68 : Cond.instanceMethod yX6_often ∈ pt_tbl ∧ Cond.selects RX6 yX6_often yX6_often ∈ pt_tbl := ⟨wd_500, wd_501⟩
theorem cw_69 : pt_cW mm_69 5 := ⟨(List.mem_of_getElem? (i := 618) (by decide +kernel)), wd_69, ⟨by decide +kernel, by decide +kernel, by decide +kernel⟩, by decide⟩
theorem wd_502 : Cond.instanceMethod yX6_spice ∈ pt_tbl := pt_tbl_in (List.mem_of_getElem? (i := 616) (by decide +kernel)) rfl
theorem wd_503 : Cond.selects RX6 yX6_spice yX6_spice ∈ pt_tbl := pt_tbl_in (List.mem_of_getElem? (i := 617) (by decide +kernel)) rfl
theorem iv_69 : Cond.instanceMethod yX6_spice ∈ pt_tbl ∧ Cond.selects RX6 yX6_spice yX6_spice ∈ pt_tbl := ⟨wd_502, wd_503⟩
theorem cw_70 : pt_cW mm_70 4 := ⟨(List.mem_of_getElem? (i := 632) (by decide +kernel)), wd_69, ⟨by decide +kernel, by decide +kernel, by decide +kernel⟩, by decide⟩
theorem wd_504 : Cond.instanceMethod yX6_both ∈ pt_tbl := pt_tbl_in (List.mem_of_getElem? (i := 630) (by decide +kernel)) rfl
theorem wd_505 : Cond.selects RX6 yX6_both yX6_both ∈ pt_tbl := pt_tbl_in (List.mem_of_getElem? (i := 631) (by decide +kernel)) rfl
theorem iv_70 : Cond.instanceMethod yX6_both ∈ pt_tbl ∧ Cond.selects RX6 yX6_both yX6_both ∈ pt_tbl := ⟨wd_504, wd_505⟩
theorem cw_71 : pt_cW mm_71 3 := ⟨(List.mem_of_getElem? (i := 637) (by decide +kernel)), wd_69, ⟨by decide +kernel, by decide +kernel, by decide +kernel⟩, by decide⟩
theorem wd_506 : Cond.instanceMethod yX6_order ∈ pt_tbl := pt_tbl_in (List.mem_of_getElem? (i := 635) (by decide +kernel)) rfl
theorem wd_507 : Cond.selects RX6 yX6_order yX6_order ∈ pt_tbl := pt_tbl_in (List.mem_of_getElem? (i := 636) (by decide +kernel)) rfl
theorem iv_71 : Cond.instanceMethod yX6_order ∈ pt_tbl ∧ Cond.selects RX6 yX6_order yX6_order ∈ pt_tbl := ⟨wd_506, wd_507⟩
theorem cw_72 : pt_cW mm_72 4 := ⟨(List.mem_of_getElem? (i := 646) (by decide +kernel)), wd_69, ⟨by decide +kernel, by decide +kernel, by decide +kernel⟩, by decide⟩
theorem wd_508 : Cond.instanceMethod yX6_written ∈ pt_tbl := pt_tbl_in (List.mem_of_getElem? (i := 644) (by decide +kernel)) rfl
theorem wd_509 : Cond.selects RX6 yX6_written yX6_written ∈ pt_tbl := pt_tbl_in (List.mem_of_getElem? (i := 645) (by decide +kernel)) rfl
theorem iv_72 : Cond.instanceMethod yX6_written ∈ pt_tbl ∧ Cond.selects RX6 yX6_written yX6_written ∈ pt_tbl := ⟨wd_508, wd_509⟩
theorem cw_73 : pt_cW mm_73 2 := ⟨(List.mem_of_getElem? (i := 651) (by decide +kernel)), wd_69, ⟨by decide +kernel, by decide +kernel, by decide +kernel⟩, by decide⟩
theorem wd_510 : Cond.instanceMethod yX6_forged ∈ pt_tbl := pt_tbl_in (List.mem_of_getElem? (i := 649) (by decide +kernel)) rfl
theorem wd_511 : Cond.selects RX6 yX6_forged yX6_forged ∈ pt_tbl := pt_tbl_in (List.mem_of_getElem? (i := 650) (by decide +kernel)) rfl
theorem iv_73 : Cond.instanceMethod yX6_forged ∈ pt_tbl ∧ Cond.selects RX6 yX6_forged yX6_forged ∈ pt_tbl := ⟨wd_510, wd_511⟩
theorem cw_74 : pt_cW mm_74 1 := ⟨(List.mem_of_getElem? (i := 655) (by decide +kernel)), wd_69, ⟨by decide +kernel, by decide +kernel, by decide +kernel⟩, by decide⟩
theorem wd_512 : Cond.instanceMethod yX6_image ∈ pt_tbl := pt_tbl_in (List.mem_of_getElem? (i := 653) (by decide +kernel)) rfl
theorem wd_513 : Cond.selects RX6 yX6_image yX6_image ∈ pt_tbl := pt_tbl_in (List.mem_of_getElem? (i := 654) (by decide +kernel)) rfl
theorem iv_74 : Cond.instanceMethod yX6_image ∈ pt_tbl ∧ Cond.selects RX6 yX6_image yX6_image ∈ pt_tbl := ⟨wd_512, wd_513⟩
theorem cw_75 : pt_cW mm_75 1 := ⟨(List.mem_of_getElem? (i := 659) (by decide +kernel)), wd_69, ⟨by decide +kernel, by decide +kernel, by decide +kernel⟩, by decide⟩
theorem wd_514 : Cond.instanceMethod yX6_restore ∈ pt_tbl := pt_tbl_in (List.mem_of_getElem? (i := 657) (by decide +kernel)) rfl
theorem wd_515 : Cond.selects RX6 yX6_restore yX6_restore ∈ pt_tbl := pt_tbl_in (List.mem_of_getElem? (i := 658) (by decide +kernel)) rfl
theorem iv_75 : Cond.instanceMethod yX6_restore ∈ pt_tbl ∧ Cond.selects RX6 yX6_restore yX6_restore ∈ pt_tbl := ⟨wd_514, wd_515⟩
theorem cw_81 : pt_cW mm_81 1 := ⟨(List.mem_of_getElem? (i := 663) (by decide +kernel)), wd_69, ⟨by decide +kernel, by decide +kernel, by decide +kernel⟩, by decide⟩
theorem wd_516 : Cond.instanceMethod yX6_kind ∈ pt_tbl := pt_tbl_in (List.mem_of_getElem? (i := 661) (by decide +kernel)) rfl
theorem wd_517 : Cond.selects RX6 yX6_kind yX6_kind ∈ pt_tbl := pt_tbl_in (List.mem_of_getElem? (i := 662) (by decide +kernel)) rfl
theorem iv_81 : Cond.instanceMethod yX6_kind ∈ pt_tbl ∧ Cond.selects RX6 yX6_kind yX6_kind ∈ pt_tbl := ⟨wd_516, wd_517⟩
theorem cw_82 : pt_cW mm_82 2 := ⟨(List.mem_of_getElem? (i := 667) (by decide +kernel)), wd_69, ⟨by decide +kernel, by decide +kernel, by decide +kernel⟩, by decide⟩
theorem wd_518 : Cond.instanceMethod yX6_as ∈ pt_tbl := pt_tbl_in (List.mem_of_getElem? (i := 665) (by decide +kernel)) rfl
theorem wd_519 : Cond.selects RX6 yX6_as yX6_as ∈ pt_tbl := pt_tbl_in (List.mem_of_getElem? (i := 666) (by decide +kernel)) rfl
theorem iv_82 : Cond.instanceMethod yX6_as ∈ pt_tbl ∧ Cond.selects RX6 yX6_as yX6_as ∈ pt_tbl := ⟨wd_518, wd_519⟩
theorem cw_83 : pt_cW mm_83 2 := ⟨(List.mem_of_getElem? (i := 676) (by decide +kernel)), wd_69, ⟨by decide +kernel, by decide +kernel, by decide +kernel⟩, by decide⟩
theorem wd_520 : Cond.instanceMethod yX6_ask ∈ pt_tbl := pt_tbl_in (List.mem_of_getElem? (i := 674) (by decide +kernel)) rfl
theorem wd_521 : Cond.selects RX6 yX6_ask yX6_ask ∈ pt_tbl := pt_tbl_in (List.mem_of_getElem? (i := 675) (by decide +kernel)) rfl
theorem iv_83 : Cond.instanceMethod yX6_ask ∈ pt_tbl ∧ Cond.selects RX6 yX6_ask yX6_ask ∈ pt_tbl := ⟨wd_520, wd_521⟩
theorem cw_84 : pt_cW mm_84 1 := ⟨(List.mem_of_getElem? (i := 706) (by decide +kernel)), wd_69, ⟨by decide +kernel, by decide +kernel, by decide +kernel⟩, by decide⟩
theorem wd_522 : Cond.instanceMethod yX6_trace ∈ pt_tbl := pt_tbl_in (List.mem_of_getElem? (i := 704) (by decide +kernel)) rfl
theorem wd_523 : Cond.selects RX6 yX6_trace yX6_trace ∈ pt_tbl := pt_tbl_in (List.mem_of_getElem? (i := 705) (by decide +kernel)) rfl
theorem iv_84 : Cond.instanceMethod yX6_trace ∈ pt_tbl ∧ Cond.selects RX6 yX6_trace yX6_trace ∈ pt_tbl := ⟨wd_522, wd_523⟩
theorem cw_85 : pt_cW mm_85 1 := ⟨(List.mem_of_getElem? (i := 710) (by decide +kernel)), wd_69, ⟨by decide +kernel, by decide +kernel, by decide +kernel⟩, by decide⟩
theorem wd_524 : Cond.instanceMethod yX6_count ∈ pt_tbl := pt_tbl_in (List.mem_of_getElem? (i := 708) (by decide +kernel)) rfl
theorem wd_525 : Cond.selects RX6 yX6_count yX6_count ∈ pt_tbl := pt_tbl_in (List.mem_of_getElem? (i := 709) (by decide +kernel)) rfl
theorem iv_85 : Cond.instanceMethod yX6_count ∈ pt_tbl ∧ Cond.selects RX6 yX6_count yX6_count ∈ pt_tbl := ⟨wd_524, wd_525⟩
theorem cw_86 : pt_cW mm_86 0 := ⟨(List.mem_of_getElem? (i := 722) (by decide +kernel)), wd_69, ⟨by decide +kernel, by decide +kernel, by decide +kernel⟩, by decide⟩
theorem wd_526 : Cond.instanceMethod yX6_status ∈ pt_tbl := pt_tbl_in (List.mem_of_getElem? (i := 720) (by decide +kernel)) rfl
theorem wd_527 : Cond.selects RX6 yX6_status yX6_status ∈ pt_tbl := pt_tbl_in (List.mem_of_getElem? (i := 721) (by decide +kernel)) rfl
theorem iv_86 : Cond.instanceMethod yX6_status ∈ pt_tbl ∧ Cond.selects RX6 yX6_status yX6_status ∈ pt_tbl := ⟨wd_526, wd_527⟩
theorem cw_92 : pt_cW mm_92 3 := ⟨(List.mem_of_getElem? (i := 821) (by decide +kernel)), wd_277, ⟨by decide +kernel, by decide +kernel, by decide +kernel⟩, by decide⟩
theorem wd_528 : Cond.instanceMethod yX7_row ∈ pt_tbl := pt_tbl_in (List.mem_of_getElem? (i := 819) (by decide +kernel)) rfl
theorem wd_529 : Cond.selects RX7 yX7_row yX7_row ∈ pt_tbl := pt_tbl_in (List.mem_of_getElem? (i := 820) (by decide +kernel)) rfl
theorem iv_92 : Cond.instanceMethod yX7_row ∈ pt_tbl ∧ Cond.selects RX7 yX7_row yX7_row ∈ pt_tbl := ⟨wd_528, wd_529⟩
theorem cw_93 : pt_cW mm_93 3 := ⟨(List.mem_of_getElem? (i := 839) (by decide +kernel)), wd_277, ⟨by decide +kernel, by decide +kernel, by decide +kernel⟩, by decide⟩
theorem wd_530 : Cond.instanceMethod yX7_set ∈ pt_tbl := pt_tbl_in (List.mem_of_getElem? (i := 837) (by decide +kernel)) rfl
theorem wd_531 : Cond.selects RX7 yX7_set yX7_set ∈ pt_tbl := pt_tbl_in (List.mem_of_getElem? (i := 838) (by decide +kernel)) rfl
theorem iv_93 : Cond.instanceMethod yX7_set ∈ pt_tbl ∧ Cond.selects RX7 yX7_set yX7_set ∈ pt_tbl := ⟨wd_530, wd_531⟩
theorem cw_94 : pt_cW mm_94 5 := ⟨(List.mem_of_getElem? (i := 843) (by decide +kernel)), wd_277, ⟨by decide +kernel, by decide +kernel, by decide +kernel⟩, by decide⟩
theorem wd_532 : Cond.instanceMethod yX7_copy ∈ pt_tbl := pt_tbl_in (List.mem_of_getElem? (i := 841) (by decide +kernel)) rfl
theorem wd_533 : Cond.selects RX7 yX7_copy yX7_copy ∈ pt_tbl := pt_tbl_in (List.mem_of_getElem? (i := 842) (by decide +kernel)) rfl
theorem iv_94 : Cond.instanceMethod yX7_copy ∈ pt_tbl ∧ Cond.selects RX7 yX7_copy yX7_copy ∈ pt_tbl := ⟨wd_532, wd_533⟩
theorem cw_95 : pt_cW mm_95 1 := ⟨(List.mem_of_getElem? (i := 847) (by decide +kernel)), wd_277, ⟨by decide +kernel, by decide +kernel, by decide +kernel⟩, by decide⟩
theorem wd_534 : Cond.instanceMethod yX7_drop ∈ pt_tbl := pt_tbl_in (List.mem_of_getElem? (i := 845) (by decide +kernel)) rfl
theorem wd_535 : Cond.selects RX7 yX7_drop yX7_drop ∈ pt_tbl := pt_tbl_in (List.mem_of_getElem? (i := 846) (by decide +kernel)) rfl
theorem iv_95 : Cond.instanceMethod yX7_drop ∈ pt_tbl ∧ Cond.selects RX7 yX7_drop yX7_drop ∈ pt_tbl := ⟨wd_534, wd_535⟩
theorem cw_96 : pt_cW mm_96 2 := ⟨(List.mem_of_getElem? (i := 851) (by decide +kernel)), wd_277, ⟨by decide +kernel, by decide +kernel, by decide +kernel⟩, by decide⟩
theorem wd_536 : Cond.instanceMethod yX7_feed ∈ pt_tbl := pt_tbl_in (List.mem_of_getElem? (i := 849) (by decide +kernel)) rfl
theorem wd_537 : Cond.selects RX7 yX7_feed yX7_feed ∈ pt_tbl := pt_tbl_in (List.mem_of_getElem? (i := 850) (by decide +kernel)) rfl
theorem iv_96 : Cond.instanceMethod yX7_feed ∈ pt_tbl ∧ Cond.selects RX7 yX7_feed yX7_feed ∈ pt_tbl := ⟨wd_536, wd_537⟩
theorem cw_112 : pt_cW mm_112 0 := ⟨(List.mem_of_getElem? (i := 858) (by decide +kernel)), wd_277, ⟨by decide +kernel, by decide +kernel, by decide +kernel⟩, by decide⟩
theorem wd_538 : Cond.instanceMethod yX7_street ∈ pt_tbl := pt_tbl_in (List.mem_of_getElem? (i := 856) (by decide +kernel)) rfl
theorem wd_539 : Cond.selects RX7 yX7_street yX7_street ∈ pt_tbl := pt_tbl_in (List.mem_of_getElem? (i := 857) (by decide +kernel)) rfl
theorem iv_112 : Cond.instanceMethod yX7_street ∈ pt_tbl ∧ Cond.selects RX7 yX7_street yX7_street ∈ pt_tbl := ⟨wd_538, wd_539⟩
theorem cw_113 : pt_cW mm_113 0 := ⟨(List.mem_of_getElem? (i := 928) (by decide +kernel)), wd_277, ⟨by decide +kernel, by decide +kernel, by decide +kernel⟩, by decide⟩
theorem wd_540 : Cond.instanceMethod yX7_fault ∈ pt_tbl := pt_tbl_in (List.mem_of_getElem? (i := 926) (by decide +kernel)) rfl
theorem wd_541 : Cond.selects RX7 yX7_fault yX7_fault ∈ pt_tbl := pt_tbl_in (List.mem_of_getElem? (i := 927) (by decide +kernel)) rfl
theorem iv_113 : Cond.instanceMethod yX7_fault ∈ pt_tbl ∧ Cond.selects RX7 yX7_fault yX7_fault ∈ pt_tbl := ⟨wd_540, wd_541⟩
theorem cw_129 : pt_cW mm_129 3 := ⟨(List.mem_of_getElem? (i := 932) (by decide +kernel)), wd_277, ⟨by decide +kernel, by decide +kernel, by decide +kernel⟩, by decide⟩
theorem wd_542 : Cond.instanceMethod yX7_paint ∈ pt_tbl := pt_tbl_in (List.mem_of_getElem? (i := 930) (by decide +kernel)) rfl
theorem wd_543 : Cond.selects RX7 yX7_paint yX7_paint ∈ pt_tbl := pt_tbl_in (List.mem_of_getElem? (i := 931) (by decide +kernel)) rfl
theorem iv_129 : Cond.instanceMethod yX7_paint ∈ pt_tbl ∧ Cond.selects RX7 yX7_paint yX7_paint ∈ pt_tbl := ⟨wd_542, wd_543⟩
theorem cw_130 : pt_cW mm_130 1 := ⟨(List.mem_of_getElem? (i := 953) (by decide +kernel)), wd_277, ⟨by decide +kernel, by decide +kernel, by decide +kernel⟩, by decide⟩
theorem wd_544 : Cond.instanceMethod yX7_day ∈ pt_tbl := pt_tbl_in (List.mem_of_getElem? (i := 951) (by decide +kernel)) rfl
theorem wd_545 : Cond.selects RX7 yX7_day yX7_day ∈ pt_tbl := pt_tbl_in (List.mem_of_getElem? (i := 952) (by decide +kernel)) rfl
theorem iv_130 : Cond.instanceMethod yX7_day ∈ pt_tbl ∧ Cond.selects RX7 yX7_day yX7_day ∈ pt_tbl := ⟨wd_544, wd_545⟩
theorem cw_131 : pt_cW mm_131 3 := ⟨(List.mem_of_getElem? (i := 963) (by decide +kernel)), wd_277, ⟨by decide +kernel, by decide +kernel, by decide +kernel⟩, by decide⟩
theorem wd_546 : Cond.instanceMethod yX7_walk ∈ pt_tbl := pt_tbl_in (List.mem_of_getElem? (i := 961) (by decide +kernel)) rfl
theorem wd_547 : Cond.selects RX7 yX7_walk yX7_walk ∈ pt_tbl := pt_tbl_in (List.mem_of_getElem? (i := 962) (by decide +kernel)) rfl
theorem iv_131 : Cond.instanceMethod yX7_walk ∈ pt_tbl ∧ Cond.selects RX7 yX7_walk yX7_walk ∈ pt_tbl := ⟨wd_546, wd_547⟩
theorem cw_133 : pt_cW mm_133 1 := ⟨(List.mem_of_getElem? (i := 1001) (by decide +kernel)), wd_277, ⟨by decide +kernel, by decide +kernel, by decide +kernel⟩, by decide⟩
theorem wd_548 : Cond.instanceMethod yX7_rest ∈ pt_tbl := pt_tbl_in (List.mem_of_getElem? (i := 999) (by decide +kernel)) rfl
theorem wd_549 : Cond.selects RX7 yX7_rest yX7_rest ∈ pt_tbl := pt_tbl_in (List.mem_of_getElem? (i := 1000) (by decide +kernel)) rfl
theorem iv_133 : Cond.instanceMethod yX7_rest ∈ pt_tbl ∧ Cond.selects RX7 yX7_rest yX7_rest ∈ pt_tbl := ⟨wd_548, wd_549⟩
theorem cw_134 : pt_cW mm_134 0 := ⟨(List.mem_of_getElem? (i := 1009) (by decide +kernel)), wd_277, ⟨by decide +kernel, by decide +kernel, by decide +kernel⟩, by decide⟩
theorem wd_550 : Cond.instanceMethod yX7_undo ∈ pt_tbl := pt_tbl_in (List.mem_of_getElem? (i := 1007) (by decide +kernel)) rfl
theorem wd_551 : Cond.selects RX7 yX7_undo yX7_undo ∈ pt_tbl := pt_tbl_in (List.mem_of_getElem? (i := 1008) (by decide +kernel)) rfl
theorem iv_134 : Cond.instanceMethod yX7_undo ∈ pt_tbl ∧ Cond.selects RX7 yX7_undo yX7_undo ∈ pt_tbl := ⟨wd_550, wd_551⟩
theorem cw_135 : pt_cW mm_135 2 := ⟨(List.mem_of_getElem? (i := 1013) (by decide +kernel)), wd_277, ⟨by decide +kernel, by decide +kernel, by decide +kernel⟩, by decide⟩
theorem wd_552 : Cond.instanceMethod yX7_wall ∈ pt_tbl := pt_tbl_in (List.mem_of_getElem? (i := 1011) (by decide +kernel)) rfl
theorem wd_553 : Cond.selects RX7 yX7_wall yX7_wall ∈ pt_tbl := pt_tbl_in (List.mem_of_getElem? (i := 1012) (by decide +kernel)) rfl
theorem iv_135 : Cond.instanceMethod yX7_wall ∈ pt_tbl ∧ Cond.selects RX7 yX7_wall yX7_wall ∈ pt_tbl := ⟨wd_552, wd_553⟩
theorem cw_136 : pt_cW mm_136 2 := ⟨(List.mem_of_getElem? (i := 1017) (by decide +kernel)), wd_277, ⟨by decide +kernel, by decide +kernel, by decide +kernel⟩, by decide⟩
theorem wd_554 : Cond.instanceMethod yX7_reader ∈ pt_tbl := pt_tbl_in (List.mem_of_getElem? (i := 1015) (by decide +kernel)) rfl
theorem wd_555 : Cond.selects RX7 yX7_reader yX7_reader ∈ pt_tbl := pt_tbl_in (List.mem_of_getElem? (i := 1016) (by decide +kernel)) rfl
theorem iv_136 : Cond.instanceMethod yX7_reader ∈ pt_tbl ∧ Cond.selects RX7 yX7_reader yX7_reader ∈ pt_tbl := ⟨wd_554, wd_555⟩
theorem cw_137 : pt_cW mm_137 3 := ⟨(List.mem_of_getElem? (i := 1021) (by decide +kernel)), wd_277, ⟨by decide +kernel, by decide +kernel, by decide +kernel⟩, by decide⟩
theorem wd_556 : Cond.instanceMethod yX7_felt ∈ pt_tbl := pt_tbl_in (List.mem_of_getElem? (i := 1019) (by decide +kernel)) rfl
theorem wd_557 : Cond.selects RX7 yX7_felt yX7_felt ∈ pt_tbl := pt_tbl_in (List.mem_of_getElem? (i := 1020) (by decide +kernel)) rfl
theorem iv_137 : Cond.instanceMethod yX7_felt ∈ pt_tbl ∧ Cond.selects RX7 yX7_felt yX7_felt ∈ pt_tbl := ⟨wd_556, wd_557⟩
theorem cw_138 : pt_cW mm_138 4 := ⟨(List.mem_of_getElem? (i := 1025) (by decide +kernel)), wd_277, ⟨by decide +kernel, by decide +kernel, by decide +kernel⟩, by decide⟩
theorem wd_558 : Cond.instanceMethod yX7_read ∈ pt_tbl := pt_tbl_in (List.mem_of_getElem? (i := 1023) (by decide +kernel)) rfl
theorem wd_559 : Cond.selects RX7 yX7_read yX7_read ∈ pt_tbl := pt_tbl_in (List.mem_of_getElem? (i := 1024) (by decide +kernel)) rfl
theorem iv_138 : Cond.instanceMethod yX7_read ∈ pt_tbl ∧ Cond.selects RX7 yX7_read yX7_read ∈ pt_tbl := ⟨wd_558, wd_559⟩
theorem cw_140 : pt_cW mm_140 4 := ⟨(List.mem_of_getElem? (i := 1033) (by decide +kernel)), wd_277, ⟨by decide +kernel, by decide +kernel, by decide +kernel⟩, by decide⟩
theorem wd_560 : Cond.instanceMethod yX7_wrong ∈ pt_tbl := pt_tbl_in (List.mem_of_getElem? (i := 1031) (by decide +kernel)) rfl
theorem wd_561 : Cond.selects RX7 yX7_wrong yX7_wrong ∈ pt_tbl := pt_tbl_in (List.mem_of_getElem? (i := 1032) (by decide +kernel)) rfl
theorem iv_140 : Cond.instanceMethod yX7_wrong ∈ pt_tbl ∧ Cond.selects RX7 yX7_wrong yX7_wrong ∈ pt_tbl := ⟨wd_560, wd_561⟩
theorem cw_141 : pt_cW mm_141 3 := ⟨(List.mem_of_getElem? (i := 1041) (by decide +kernel)), wd_277, ⟨by decide +kernel, by decide +kernel, by decide +kernel⟩, by decide⟩
theorem wd_562 : Cond.instanceMethod yX7_often ∈ pt_tbl := pt_tbl_in (List.mem_of_getElem? (i := 1039) (by decide +kernel)) rfl
theorem wd_563 : Cond.selects RX7 yX7_often yX7_often ∈ pt_tbl := pt_tbl_in (List.mem_of_getElem? (i := 1040) (by decide +kernel)) rfl
theorem iv_141 : Cond.instanceMethod yX7_often ∈ pt_tbl ∧ Cond.selects RX7 yX7_often yX7_often ∈ pt_tbl := ⟨wd_562, wd_563⟩
theorem cw_143 : pt_cW mm_143 5 := ⟨(List.mem_of_getElem? (i := 1045) (by decide +kernel)), wd_277, ⟨by decide +kernel, by decide +kernel, by decide +kernel⟩, by decide⟩
theorem wd_564 : Cond.instanceMethod yX7_spice ∈ pt_tbl := pt_tbl_in (List.mem_of_getElem? (i := 1043) (by decide +kernel)) rfl
theorem wd_565 : Cond.selects RX7 yX7_spice yX7_spice ∈ pt_tbl := pt_tbl_in (List.mem_of_getElem? (i := 1044) (by decide +kernel)) rfl
theorem iv_143 : Cond.instanceMethod yX7_spice ∈ pt_tbl ∧ Cond.selects RX7 yX7_spice yX7_spice ∈ pt_tbl := ⟨wd_564, wd_565⟩
theorem cw_144 : pt_cW mm_144 4 := ⟨(List.mem_of_getElem? (i := 1053) (by decide +kernel)), wd_277, ⟨by decide +kernel, by decide +kernel, by decide +kernel⟩, by decide⟩
theorem wd_566 : Cond.instanceMethod yX7_both ∈ pt_tbl := pt_tbl_in (List.mem_of_getElem? (i := 1051) (by decide +kernel)) rfl
theorem wd_567 : Cond.selects RX7 yX7_both yX7_both ∈ pt_tbl := pt_tbl_in (List.mem_of_getElem? (i := 1052) (by decide +kernel)) rfl
theorem iv_144 : Cond.instanceMethod yX7_both ∈ pt_tbl ∧ Cond.selects RX7 yX7_both yX7_both ∈ pt_tbl := ⟨wd_566, wd_567⟩
theorem cw_147 : pt_cW mm_147 3 := ⟨(List.mem_of_getElem? (i := 1057) (by decide +kernel)), wd_277, ⟨by decide +kernel, by decide +kernel, by decide +kernel⟩, by decide⟩
theorem wd_568 : Cond.instanceMethod yX7_order ∈ pt_tbl := pt_tbl_in (List.mem_of_getElem? (i := 1055) (by decide +kernel)) rfl
theorem wd_569 : Cond.selects RX7 yX7_order yX7_order ∈ pt_tbl := pt_tbl_in (List.mem_of_getElem? (i := 1056) (by decide +kernel)) rfl
theorem iv_147 : Cond.instanceMethod yX7_order ∈ pt_tbl ∧ Cond.selects RX7 yX7_order yX7_order ∈ pt_tbl := ⟨wd_568, wd_569⟩
theorem cw_148 : pt_cW mm_148 4 := ⟨(List.mem_of_getElem? (i := 1069) (by decide +kernel)), wd_277, ⟨by decide +kernel, by decide +kernel, by decide +kernel⟩, by decide⟩
theorem wd_570 : Cond.instanceMethod yX7_written ∈ pt_tbl := pt_tbl_in (List.mem_of_getElem? (i := 1067) (by decide +kernel)) rfl
theorem wd_571 : Cond.selects RX7 yX7_written yX7_written ∈ pt_tbl := pt_tbl_in (List.mem_of_getElem? (i := 1068) (by decide +kernel)) rfl
theorem iv_148 : Cond.instanceMethod yX7_written ∈ pt_tbl ∧ Cond.selects RX7 yX7_written yX7_written ∈ pt_tbl := ⟨wd_570, wd_571⟩
theorem cw_149 : pt_cW mm_149 2 := ⟨(List.mem_of_getElem? (i := 1074) (by decide +kernel)), wd_277, ⟨by decide +kernel, by decide +kernel, by decide +kernel⟩, by decide⟩
theorem wd_572 : Cond.instanceMethod yX7_forged ∈ pt_tbl := pt_tbl_in (List.mem_of_getElem? (i := 1072) (by decide +kernel)) rfl
theorem wd_573 : Cond.selects RX7 yX7_forged yX7_forged ∈ pt_tbl := pt_tbl_in (List.mem_of_getElem? (i := 1073) (by decide +kernel)) rfl
theorem iv_149 : Cond.instanceMethod yX7_forged ∈ pt_tbl ∧ Cond.selects RX7 yX7_forged yX7_forged ∈ pt_tbl := ⟨wd_572, wd_573⟩
theorem cw_150 : pt_cW mm_150 1 := ⟨(List.mem_of_getElem? (i := 1079) (by decide +kernel)), wd_277, ⟨by decide +kernel, by decide +kernel, by decide +kernel⟩, by decide⟩
theorem wd_574 : Cond.instanceMethod yX7_image ∈ pt_tbl := pt_tbl_in (List.mem_of_getElem? (i := 1077) (by decide +kernel)) rfl
theorem wd_575 : Cond.selects RX7 yX7_image yX7_image ∈ pt_tbl := pt_tbl_in (List.mem_of_getElem? (i := 1078) (by decide +kernel)) rfl
theorem iv_150 : Cond.instanceMethod yX7_image ∈ pt_tbl ∧ Cond.selects RX7 yX7_image yX7_image ∈ pt_tbl := ⟨wd_574, wd_575⟩
theorem cw_151 : pt_cW mm_151 1 := ⟨(List.mem_of_getElem? (i := 1083) (by decide +kernel)), wd_277, ⟨by decide +kernel, by decide +kernel, by decide +kernel⟩, by decide⟩
theorem wd_576 : Cond.instanceMethod yX7_restore ∈ pt_tbl := pt_tbl_in (List.mem_of_getElem? (i := 1081) (by decide +kernel)) rfl
theorem wd_577 : Cond.selects RX7 yX7_restore yX7_restore ∈ pt_tbl := pt_tbl_in (List.mem_of_getElem? (i := 1082) (by decide +kernel)) rfl
theorem iv_151 : Cond.instanceMethod yX7_restore ∈ pt_tbl ∧ Cond.selects RX7 yX7_restore yX7_restore ∈ pt_tbl := ⟨wd_576, wd_577⟩
theorem cw_153 : pt_cW mm_153 1 := ⟨(List.mem_of_getElem? (i := 1087) (by decide +kernel)), wd_277, ⟨by decide +kernel, by decide +kernel, by decide +kernel⟩, by decide⟩
theorem wd_578 : Cond.instanceMethod yX7_kind ∈ pt_tbl := pt_tbl_in (List.mem_of_getElem? (i := 1085) (by decide +kernel)) rfl
theorem wd_579 : Cond.selects RX7 yX7_kind yX7_kind ∈ pt_tbl := pt_tbl_in (List.mem_of_getElem? (i := 1086) (by decide +kernel)) rfl
theorem iv_153 : Cond.instanceMethod yX7_kind ∈ pt_tbl ∧ Cond.selects RX7 yX7_kind yX7_kind ∈ pt_tbl := ⟨wd_578, wd_579⟩
theorem cw_154 : pt_cW mm_154 2 := ⟨(List.mem_of_getElem? (i := 1091) (by decide +kernel)), wd_277, ⟨by decide +kernel, by decide +kernel, by decide +kernel⟩, by decide⟩
theorem wd_580 : Cond.instanceMethod yX7_as ∈ pt_tbl := pt_tbl_in (List.mem_of_getElem? (i := 1089) (by decide +kernel)) rfl
theorem wd_581 : Cond.selects RX7 yX7_as yX7_as ∈ pt_tbl := pt_tbl_in (List.mem_of_getElem? (i := 1090) (by decide +kernel)) rfl
theorem iv_154 : Cond.instanceMethod yX7_as ∈ pt_tbl ∧ Cond.selects RX7 yX7_as yX7_as ∈ pt_tbl := ⟨wd_580, wd_581⟩
theorem cw_160 : pt_cW mm_160 2 := ⟨(List.mem_of_getElem? (i := 1098) (by decide +kernel)), wd_277, ⟨by decide +kernel, by decide +kernel, by decide +kernel⟩, by decide⟩
theorem wd_582 : Cond.instanceMethod yX7_ask ∈ pt_tbl := pt_tbl_in (List.mem_of_getElem? (i := 1096) (by decide +kernel)) rfl
theorem wd_583 : Cond.selects RX7 yX7_ask yX7_ask ∈ pt_tbl := pt_tbl_in (List.mem_of_getElem? (i := 1097) (by decide +kernel)) rfl
theorem iv_160 : Cond.instanceMethod yX7_ask ∈ pt_tbl ∧ Cond.selects RX7 yX7_ask yX7_ask ∈ pt_tbl := ⟨wd_582, wd_583⟩
theorem cw_161 : pt_cW mm_161 1 := ⟨(List.mem_of_getElem? (i := 1122) (by decide +kernel)), wd_277, ⟨by decide +kernel, by decide +kernel, by decide +kernel⟩, by decide⟩
theorem wd_584 : Cond.instanceMethod yX7_trace ∈ pt_tbl := pt_tbl_in (List.mem_of_getElem? (i := 1120) (by decide +kernel)) rfl
theorem wd_585 : Cond.selects RX7 yX7_trace yX7_trace ∈ pt_tbl := pt_tbl_in (List.mem_of_getElem? (i := 1121) (by decide +kernel)) rfl
theorem iv_161 : Cond.instanceMethod yX7_trace ∈ pt_tbl ∧ Cond.selects RX7 yX7_trace yX7_trace ∈ pt_tbl := ⟨wd_584, wd_585⟩
theorem cw_162 : pt_cW mm_162 1 := ⟨(List.mem_of_getElem? (i := 1126) (by decide +kernel)), wd_277, ⟨by decide +kernel, by decide +kernel, by decide +kernel⟩, by decide⟩
theorem wd_586 : Cond.instanceMethod yX7_count ∈ pt_tbl := pt_tbl_in (List.mem_of_getElem? (i := 1124) (by decide +kernel)) rfl
theorem wd_587 : Cond.selects RX7 yX7_count yX7_count ∈ pt_tbl := pt_tbl_in (List.mem_of_getElem? (i := 1125) (by decide +kernel)) rfl
theorem iv_162 : Cond.instanceMethod yX7_count ∈ pt_tbl ∧ Cond.selects RX7 yX7_count yX7_count ∈ pt_tbl := ⟨wd_586, wd_587⟩
theorem cw_163 : pt_cW mm_163 0 := ⟨(List.mem_of_getElem? (i := 1130) (by decide +kernel)), wd_277, ⟨by decide +kernel, by decide +kernel, by decide +kernel⟩, by decide⟩
theorem wd_588 : Cond.instanceMethod yX7_status ∈ pt_tbl := pt_tbl_in (List.mem_of_getElem? (i := 1128) (by decide +kernel)) rfl
theorem wd_589 : Cond.selects RX7 yX7_status yX7_status ∈ pt_tbl := pt_tbl_in (List.mem_of_getElem? (i := 1129) (by decide +kernel)) rfl
theorem iv_163 : Cond.instanceMethod yX7_status ∈ pt_tbl ∧ Cond.selects RX7 yX7_status yX7_status ∈ pt_tbl := ⟨wd_588, wd_589⟩
