theorem fv_0_9 {M : Mem} {a : Nat} : fvl M a 0 9 = .ref (a + 1) := rfl
theorem fv_0_0 {M : Mem} {a : Nat} : fvl M a 0 0 = .int (M.1 a 0) := rfl
theorem fv_0_1 {M : Mem} {a : Nat} : fvl M a 0 1 = .int (M.1 a 1) := rfl
theorem fv_0_2 {M : Mem} {a : Nat} : fvl M a 0 2 = .int (M.1 a 2) := rfl
theorem fv_0_3 {M : Mem} {a : Nat} : fvl M a 0 3 = .int (M.1 a 3) := rfl
theorem fv_0_4 {M : Mem} {a : Nat} : fvl M a 0 4 = .int (M.1 a 4) := rfl
theorem fv_0_5 {M : Mem} {a : Nat} : fvl M a 0 5 = .int (M.1 a 5) := rfl
theorem fv_0_6 {M : Mem} {a : Nat} : fvl M a 0 6 = .int (M.1 a 6) := rfl
theorem fv_0_7 {M : Mem} {a : Nat} : fvl M a 0 7 = .int (M.1 a 7) := rfl
theorem fv_0_8 {M : Mem} {a : Nat} : fvl M a 0 8 = .int (M.1 a 8) := rfl
theorem fv_0_10 {M : Mem} {a : Nat} : fvl M a 0 10 = .ref (a + 2) := rfl
theorem fv_3_5 {M : Mem} {a : Nat} : fvl M a 3 5 = .int (M.1 a 5) := rfl
theorem fv_1_0 {M : Mem} {a : Nat} : fvl M a 1 0 = .int (M.1 a 0) := rfl
theorem fv_1_1 {M : Mem} {a : Nat} : fvl M a 1 1 = .int (M.1 a 1) := rfl
theorem fv_1_2 {M : Mem} {a : Nat} : fvl M a 1 2 = .int (M.1 a 2) := rfl
theorem fv_1_3 {M : Mem} {a : Nat} : fvl M a 1 3 = .int (M.1 a 3) := rfl
theorem fv_1_4 {M : Mem} {a : Nat} : fvl M a 1 4 = .int (M.1 a 4) := rfl
theorem fv_1_5 {M : Mem} {a : Nat} : fvl M a 1 5 = .int (M.1 a 5) := rfl
theorem fv_1_6 {M : Mem} {a : Nat} : fvl M a 1 6 = .int (M.1 a 6) := rfl
theorem fv_1_7 {M : Mem} {a : Nat} : fvl M a 1 7 = .int (M.1 a 7) := rfl
theorem fv_1_8 {M : Mem} {a : Nat} : fvl M a 1 8 = .int (M.1 a 8) := rfl
theorem fv_1_12 {M : Mem} {a : Nat} : fvl M a 1 12 = .int (M.1 a 12) := rfl
theorem fv_1_13 {M : Mem} {a : Nat} : fvl M a 1 13 = .int (M.1 a 13) := rfl
theorem fv_1_9 {M : Mem} {a : Nat} : fvl M a 1 9 = .ref (a + 1) := rfl
theorem fv_1_10 {M : Mem} {a : Nat} : fvl M a 1 10 = .ref (a + 2) := rfl
theorem fv_1_11 {M : Mem} {a : Nat} : fvl M a 1 11 = .ref (a + 3) := rfl
theorem fv_7_1 {M : Mem} {a : Nat} : fvl M a 7 1 = .int (M.1 a 1) := rfl
theorem fv_7_2 {M : Mem} {a : Nat} : fvl M a 7 2 = .ref (a + 2) := rfl
theorem fv_7_0 {M : Mem} {a : Nat} : fvl M a 7 0 = .ref (a + 1) := rfl
theorem fv_3_9 {M : Mem} {a : Nat} : fvl M a 3 9 = .ref (a + 2) := rfl
theorem fv_3_10 {M : Mem} {a : Nat} : fvl M a 3 10 = .ref (a + 5) := rfl
theorem fv_3_0 {M : Mem} {a : Nat} : fvl M a 3 0 = .int (M.1 a 0) := rfl
theorem fv_4_0 {M : Mem} {a : Nat} : fvl M a 4 0 = .int (M.1 a 0) := rfl
theorem fv_4_1 {M : Mem} {a : Nat} : fvl M a 4 1 = .int (M.1 a 1) := rfl
theorem fv_4_2 {M : Mem} {a : Nat} : fvl M a 4 2 = .int (M.1 a 2) := rfl
theorem fv_4_3 {M : Mem} {a : Nat} : fvl M a 4 3 = .int (M.1 a 3) := rfl
theorem fv_4_4 {M : Mem} {a : Nat} : fvl M a 4 4 = .int (M.1 a 4) := rfl
theorem fv_4_5 {M : Mem} {a : Nat} : fvl M a 4 5 = .ref (a + 1) := rfl
theorem fv_4_6 {M : Mem} {a : Nat} : fvl M a 4 6 = .ref (a + 2) := rfl
theorem fv_5_0 {M : Mem} {a : Nat} : fvl M a 5 0 = .int (M.1 a 0) := rfl
theorem fv_5_1 {M : Mem} {a : Nat} : fvl M a 5 1 = .int (M.1 a 1) := rfl
theorem fv_5_2 {M : Mem} {a : Nat} : fvl M a 5 2 = .int (M.1 a 2) := rfl
theorem fv_5_3 {M : Mem} {a : Nat} : fvl M a 5 3 = .int (M.1 a 3) := rfl
theorem fv_5_4 {M : Mem} {a : Nat} : fvl M a 5 4 = .int (M.1 a 4) := rfl
theorem fv_5_5 {M : Mem} {a : Nat} : fvl M a 5 5 = .int (M.1 a 5) := rfl
theorem fv_5_6 {M : Mem} {a : Nat} : fvl M a 5 6 = .int (M.1 a 6) := rfl
theorem fv_5_7 {M : Mem} {a : Nat} : fvl M a 5 7 = .int (M.1 a 7) := rfl
theorem fv_5_8 {M : Mem} {a : Nat} : fvl M a 5 8 = .int (M.1 a 8) := rfl
theorem fv_5_9 {M : Mem} {a : Nat} : fvl M a 5 9 = .int (M.1 a 9) := rfl
theorem fv_5_10 {M : Mem} {a : Nat} : fvl M a 5 10 = .ref (a + 1) := rfl
theorem fv_5_11 {M : Mem} {a : Nat} : fvl M a 5 11 = .ref (a + 4) := rfl
theorem fv_9_0 {M : Mem} {a : Nat} : fvl M a 9 0 = .int (M.1 a 0) := rfl
theorem fv_9_1 {M : Mem} {a : Nat} : fvl M a 9 1 = .ref (a + 1) := rfl
theorem fv_9_2 {M : Mem} {a : Nat} : fvl M a 9 2 = .ref (a + 5) := rfl
theorem fv_3_4 {M : Mem} {a : Nat} : fvl M a 3 4 = .int (M.1 a 4) := rfl
theorem fv_3_8 {M : Mem} {a : Nat} : fvl M a 3 8 = .ref (a + 1) := rfl
theorem fv_3_7 {M : Mem} {a : Nat} : fvl M a 3 7 = .int (M.1 a 7) := rfl
theorem fv_3_6 {M : Mem} {a : Nat} : fvl M a 3 6 = .int (M.1 a 6) := rfl
theorem fv_3_1 {M : Mem} {a : Nat} : fvl M a 3 1 = .int (M.1 a 1) := rfl
theorem fv_3_2 {M : Mem} {a : Nat} : fvl M a 3 2 = .int (M.1 a 2) := rfl
theorem fv_3_3 {M : Mem} {a : Nat} : fvl M a 3 3 = .int (M.1 a 3) := rfl
theorem lp_RX0_46 : FP RX0 46 0 7 .int := ⟨_, _, _, rfl, rfl, by decide, gin 373 (by decide +kernel) rfl, rfl, by decide +kernel⟩
theorem lf_RX0_9 : FL RX0 9 0 9 := ⟨_, _, _, rfl, rfl, by decide, gin 375 (by decide +kernel) rfl⟩
theorem lm_J7_fill_53178 : lkM yJ7_fill_53178 cJ7_fill_53178 4 none 2 := ⟨gin 612 (by decide +kernel) rfl, gin 101 (by decide +kernel) rfl, by decide +kernel⟩
theorem ls_m_J7_fill_53178 : Cond.static yJ7_fill_53178 ∈ gw := gin 611 (by decide +kernel) rfl
theorem ll_RX0_53 : Cond.methodLink RX0 53 yJ7_fill_53178 ∈ gw := gin 610 (by decide +kernel) rfl
theorem lp_RX0_18 : FP RX0 18 0 0 .int := ⟨_, _, _, rfl, rfl, by decide, gin 359 (by decide +kernel) rfl, rfl, by decide +kernel⟩
theorem lp_RX0_22 : FP RX0 22 0 1 .int := ⟨_, _, _, rfl, rfl, by decide, gin 362 (by decide +kernel) rfl, rfl, by decide +kernel⟩
theorem lp_RX0_25 : FP RX0 25 0 2 .int := ⟨_, _, _, rfl, rfl, by decide, gin 365 (by decide +kernel) rfl, rfl, by decide +kernel⟩
theorem lp_RX0_28 : FP RX0 28 0 3 .int := ⟨_, _, _, rfl, rfl, by decide, gin 368 (by decide +kernel) rfl, rfl, by decide +kernel⟩
theorem lp_RX0_31 : FP RX0 31 0 4 .int := ⟨_, _, _, rfl, rfl, by decide, gin 370 (by decide +kernel) rfl, rfl, by decide +kernel⟩
theorem lp_RX0_34 : FP RX0 34 0 5 .int := ⟨_, _, _, rfl, rfl, by decide, gin 371 (by decide +kernel) rfl, rfl, by decide +kernel⟩
theorem lp_RX0_37 : FP RX0 37 0 6 .int := ⟨_, _, _, rfl, rfl, by decide, gin 372 (by decide +kernel) rfl, rfl, by decide +kernel⟩
theorem lp_RX0_40 : FP RX0 40 0 8 .int := ⟨_, _, _, rfl, rfl, by decide, gin 374 (by decide +kernel) rfl, rfl, by decide +kernel⟩
theorem lm_X0_empty : lkM yX0_empty cX0_empty 1 none 0 := ⟨gin 609 (by decide +kernel) rfl, gin 98 (by decide +kernel) rfl, by decide +kernel⟩
theorem lv_m_X0_empty : Cond.instanceMethod yX0_empty ∈ gw ∧ Cond.selects (yX0_empty).cls yX0_empty yX0_empty ∈ gw := ⟨gin 607 (by decide +kernel) rfl, gin 608 (by decide +kernel) rfl⟩
theorem ll_RX0_43 : Cond.methodLink RX0 43 yX0_empty ∈ gw := gin 606 (by decide +kernel) rfl
theorem lc_0 : ∃ T N, vwCl[0]? = some (RX0, T, N) := ⟨_, _, rfl⟩
theorem ll_RX10_367 : Cond.methodLink RX10 367 arraycopyName ∈ gw := gin 841 (by decide +kernel) rfl
theorem lm_J9_min_7cf53 : lkM yJ9_min_7cf53 cJ9_min_7cf53 2 (some .int) 2 := ⟨gin 716 (by decide +kernel) rfl, gin 111 (by decide +kernel) rfl, by decide +kernel⟩
theorem ls_m_J9_min_7cf53 : Cond.static yJ9_min_7cf53 ∈ gw := gin 715 (by decide +kernel) rfl
theorem ll_RX10_361 : Cond.methodLink RX10 361 yJ9_min_7cf53 ∈ gw := gin 714 (by decide +kernel) rfl
theorem lf_RX0_18 : FL RX0 18 0 0 := ⟨_, _, _, rfl, rfl, by decide, gin 359 (by decide +kernel) rfl⟩
theorem lf_RX0_22 : FL RX0 22 0 1 := ⟨_, _, _, rfl, rfl, by decide, gin 362 (by decide +kernel) rfl⟩
theorem lf_RX0_25 : FL RX0 25 0 2 := ⟨_, _, _, rfl, rfl, by decide, gin 365 (by decide +kernel) rfl⟩
theorem lf_RX0_28 : FL RX0 28 0 3 := ⟨_, _, _, rfl, rfl, by decide, gin 368 (by decide +kernel) rfl⟩
theorem lf_RX0_31 : FL RX0 31 0 4 := ⟨_, _, _, rfl, rfl, by decide, gin 370 (by decide +kernel) rfl⟩
theorem lf_RX0_34 : FL RX0 34 0 5 := ⟨_, _, _, rfl, rfl, by decide, gin 371 (by decide +kernel) rfl⟩
theorem lf_RX0_37 : FL RX0 37 0 6 := ⟨_, _, _, rfl, rfl, by decide, gin 372 (by decide +kernel) rfl⟩
theorem lf_RX0_46 : FL RX0 46 0 7 := ⟨_, _, _, rfl, rfl, by decide, gin 373 (by decide +kernel) rfl⟩
theorem lf_RX0_40 : FL RX0 40 0 8 := ⟨_, _, _, rfl, rfl, by decide, gin 374 (by decide +kernel) rfl⟩
theorem lf_RX0_15 : FL RX0 15 0 10 := ⟨_, _, _, rfl, rfl, by decide, gin 376 (by decide +kernel) rfl⟩
theorem lm_X10_copyRow : lkM yX10_copyRow cX10_copyRow 2 none 2 := ⟨gin 840 (by decide +kernel) rfl, gin 90 (by decide +kernel) rfl, by decide +kernel⟩
theorem ls_m_X10_copyRow : Cond.static yX10_copyRow ∈ gw := gin 839 (by decide +kernel) rfl
theorem lm_J9_floorMod_7cf53 : lkM yJ9_floorMod_7cf53 cJ9_floorMod_7cf53 3 (some .int) 2 := ⟨gin 690 (by decide +kernel) rfl, gin 111 (by decide +kernel) rfl, by decide +kernel⟩
theorem ls_m_J9_floorMod_7cf53 : Cond.static yJ9_floorMod_7cf53 ∈ gw := gin 689 (by decide +kernel) rfl
theorem ll_RX10_356 : Cond.methodLink RX10 356 yJ9_floorMod_7cf53 ∈ gw := gin 688 (by decide +kernel) rfl
theorem lm_X10_mod : lkM yX10_mod cX10_mod 2 (some .int) 2 := ⟨gin 687 (by decide +kernel) rfl, gin 90 (by decide +kernel) rfl, by decide +kernel⟩
theorem ls_m_X10_mod : Cond.static yX10_mod ∈ gw := gin 686 (by decide +kernel) rfl
theorem lm_X10_put : lkM yX10_put cX10_put 3 none 3 := ⟨gin 157 (by decide +kernel) rfl, gin 90 (by decide +kernel) rfl, by decide +kernel⟩
theorem ls_m_X10_put : Cond.static yX10_put ∈ gw := gin 156 (by decide +kernel) rfl
theorem lm_X10_by : lkM yX10_by cX10_by 2 (some .int) 2 := ⟨gin 746 (by decide +kernel) rfl, gin 90 (by decide +kernel) rfl, by decide +kernel⟩
theorem ls_m_X10_by : Cond.static yX10_by ∈ gw := gin 745 (by decide +kernel) rfl
theorem lm_J9_max_7cf53 : lkM yJ9_max_7cf53 cJ9_max_7cf53 2 (some .int) 2 := ⟨gin 719 (by decide +kernel) rfl, gin 111 (by decide +kernel) rfl, by decide +kernel⟩
theorem ls_m_J9_max_7cf53 : Cond.static yJ9_max_7cf53 ∈ gw := gin 718 (by decide +kernel) rfl
theorem ll_RX0_70 : Cond.methodLink RX0 70 yJ9_max_7cf53 ∈ gw := gin 760 (by decide +kernel) rfl
theorem lm_X10_at : lkM yX10_at cX10_at 2 (some .int) 2 := ⟨gin 659 (by decide +kernel) rfl, gin 90 (by decide +kernel) rfl, by decide +kernel⟩
theorem ls_m_X10_at : Cond.static yX10_at ∈ gw := gin 658 (by decide +kernel) rfl
theorem lf_RX1_21 : FL RX1 21 3 5 := ⟨_, _, _, rfl, rfl, by decide, gin 184 (by decide +kernel) rfl⟩
theorem lp_RX1_27 : FP RX1 27 1 0 .int := ⟨_, _, _, rfl, rfl, by decide, gin 281 (by decide +kernel) rfl, rfl, by decide +kernel⟩
theorem lp_RX1_28 : FP RX1 28 1 1 .int := ⟨_, _, _, rfl, rfl, by decide, gin 285 (by decide +kernel) rfl, rfl, by decide +kernel⟩
theorem lp_RX1_31 : FP RX1 31 1 2 .int := ⟨_, _, _, rfl, rfl, by decide, gin 287 (by decide +kernel) rfl, rfl, by decide +kernel⟩
theorem lp_RX1_34 : FP RX1 34 1 3 .int := ⟨_, _, _, rfl, rfl, by decide, gin 289 (by decide +kernel) rfl, rfl, by decide +kernel⟩
theorem lp_RX1_37 : FP RX1 37 1 4 .int := ⟨_, _, _, rfl, rfl, by decide, gin 291 (by decide +kernel) rfl, rfl, by decide +kernel⟩
theorem lp_RX1_40 : FP RX1 40 1 5 .int := ⟨_, _, _, rfl, rfl, by decide, gin 293 (by decide +kernel) rfl, rfl, by decide +kernel⟩
theorem lp_RX1_43 : FP RX1 43 1 6 .int := ⟨_, _, _, rfl, rfl, by decide, gin 294 (by decide +kernel) rfl, rfl, by decide +kernel⟩
theorem lp_RX1_46 : FP RX1 46 1 7 .int := ⟨_, _, _, rfl, rfl, by decide, gin 298 (by decide +kernel) rfl, rfl, by decide +kernel⟩
theorem lp_RX1_49 : FP RX1 49 1 8 .int := ⟨_, _, _, rfl, rfl, by decide, gin 302 (by decide +kernel) rfl, rfl, by decide +kernel⟩
theorem lp_RX1_52 : FP RX1 52 1 12 .int := ⟨_, _, _, rfl, rfl, by decide, gin 314 (by decide +kernel) rfl, rfl, by decide +kernel⟩
theorem lp_RX1_55 : FP RX1 55 1 13 .int := ⟨_, _, _, rfl, rfl, by decide, gin 316 (by decide +kernel) rfl, rfl, by decide +kernel⟩
theorem lf_RX1_27 : FL RX1 27 1 0 := ⟨_, _, _, rfl, rfl, by decide, gin 281 (by decide +kernel) rfl⟩
theorem lf_RX1_28 : FL RX1 28 1 1 := ⟨_, _, _, rfl, rfl, by decide, gin 285 (by decide +kernel) rfl⟩
theorem lf_RX1_31 : FL RX1 31 1 2 := ⟨_, _, _, rfl, rfl, by decide, gin 287 (by decide +kernel) rfl⟩
theorem lf_RX1_34 : FL RX1 34 1 3 := ⟨_, _, _, rfl, rfl, by decide, gin 289 (by decide +kernel) rfl⟩
theorem lf_RX1_37 : FL RX1 37 1 4 := ⟨_, _, _, rfl, rfl, by decide, gin 291 (by decide +kernel) rfl⟩
theorem lf_RX1_40 : FL RX1 40 1 5 := ⟨_, _, _, rfl, rfl, by decide, gin 293 (by decide +kernel) rfl⟩
theorem lf_RX1_43 : FL RX1 43 1 6 := ⟨_, _, _, rfl, rfl, by decide, gin 294 (by decide +kernel) rfl⟩
theorem lf_RX1_46 : FL RX1 46 1 7 := ⟨_, _, _, rfl, rfl, by decide, gin 298 (by decide +kernel) rfl⟩
theorem lf_RX1_49 : FL RX1 49 1 8 := ⟨_, _, _, rfl, rfl, by decide, gin 302 (by decide +kernel) rfl⟩
theorem lf_RX1_52 : FL RX1 52 1 12 := ⟨_, _, _, rfl, rfl, by decide, gin 314 (by decide +kernel) rfl⟩
theorem lf_RX1_55 : FL RX1 55 1 13 := ⟨_, _, _, rfl, rfl, by decide, gin 316 (by decide +kernel) rfl⟩
theorem lf_RX1_11 : FL RX1 11 1 9 := ⟨_, _, _, rfl, rfl, by decide, gin 305 (by decide +kernel) rfl⟩
theorem lf_RX1_15 : FL RX1 15 1 10 := ⟨_, _, _, rfl, rfl, by decide, gin 308 (by decide +kernel) rfl⟩
theorem lf_RX1_18 : FL RX1 18 1 11 := ⟨_, _, _, rfl, rfl, by decide, gin 311 (by decide +kernel) rfl⟩
theorem lf_RX7_18 : FL RX7 18 7 1 := ⟨_, _, _, rfl, rfl, by decide, gin 141 (by decide +kernel) rfl⟩
theorem lf_RX7_15 : FL RX7 15 7 2 := ⟨_, _, _, rfl, rfl, by decide, gin 142 (by decide +kernel) rfl⟩
theorem lf_RX7_9 : FL RX7 9 7 0 := ⟨_, _, _, rfl, rfl, by decide, gin 140 (by decide +kernel) rfl⟩
theorem lm_X7_pick : lkM yX7_pick cX7_pick 5 (some .int) 5 := ⟨gin 710 (by decide +kernel) rfl, gin 93 (by decide +kernel) rfl, by decide +kernel⟩
theorem ls_m_X7_pick : Cond.static yX7_pick ∈ gw := gin 709 (by decide +kernel) rfl
theorem ll_RX7_34 : Cond.methodLink RX7 34 yX7_pick ∈ gw := gin 708 (by decide +kernel) rfl
theorem lm_X7_combined : lkM yX7_combined cX7_combined 3 (some .int) 3 := ⟨gin 706 (by decide +kernel) rfl, gin 93 (by decide +kernel) rfl, by decide +kernel⟩
theorem ls_m_X7_combined : Cond.static yX7_combined ∈ gw := gin 705 (by decide +kernel) rfl
theorem ll_RX7_30 : Cond.methodLink RX7 30 yX7_combined ∈ gw := gin 704 (by decide +kernel) rfl
theorem ll_RX10_364 : Cond.methodLink RX10 364 yJ9_max_7cf53 ∈ gw := gin 717 (by decide +kernel) rfl
theorem lf_RX1_73 : FL RX1 73 3 9 := ⟨_, _, _, rfl, rfl, by decide, gin 198 (by decide +kernel) rfl⟩
theorem lf_RX1_91 : FL RX1 91 3 10 := ⟨_, _, _, rfl, rfl, by decide, gin 200 (by decide +kernel) rfl⟩
theorem lm_X1_isLost : lkM yX1_isLost cX1_isLost 3 (some .boolean) 1 := ⟨gin 723 (by decide +kernel) rfl, gin 96 (by decide +kernel) rfl, by decide +kernel⟩
theorem lv_m_X1_isLost : Cond.instanceMethod yX1_isLost ∈ gw ∧ Cond.selects (yX1_isLost).cls yX1_isLost yX1_isLost ∈ gw := ⟨gin 722 (by decide +kernel) rfl, gin 2 (by decide +kernel) rfl⟩
theorem ll_RX1_93 : Cond.methodLink RX1 93 yX1_isLost ∈ gw := gin 720 (by decide +kernel) rfl
theorem lc_1 : ∃ T N, vwCl[1]? = some (RX1, T, N) := ⟨_, _, rfl⟩
theorem lm_X7_value : lkM yX7_value cX7_value 8 (some .int) 4 := ⟨gin 702 (by decide +kernel) rfl, gin 93 (by decide +kernel) rfl, by decide +kernel⟩
theorem lv_m_X7_value : Cond.instanceMethod yX7_value ∈ gw ∧ Cond.selects (yX7_value).cls yX7_value yX7_value ∈ gw := ⟨gin 700 (by decide +kernel) rfl, gin 701 (by decide +kernel) rfl⟩
theorem ll_RX1_83 : Cond.methodLink RX1 83 yX7_value ∈ gw := gin 699 (by decide +kernel) rfl
theorem lc_7 : ∃ T N, vwCl[7]? = some (RX7, T, N) := ⟨_, _, rfl⟩
theorem lm_X7_isTold : lkM yX7_isTold cX7_isTold 1 (some .boolean) 0 := ⟨gin 698 (by decide +kernel) rfl, gin 93 (by decide +kernel) rfl, by decide +kernel⟩
theorem lv_m_X7_isTold : Cond.instanceMethod yX7_isTold ∈ gw ∧ Cond.selects (yX7_isTold).cls yX7_isTold yX7_isTold ∈ gw := ⟨gin 696 (by decide +kernel) rfl, gin 697 (by decide +kernel) rfl⟩
theorem ll_RX1_77 : Cond.methodLink RX1 77 yX7_isTold ∈ gw := gin 695 (by decide +kernel) rfl
theorem lm_X10_within : lkM yX10_within cX10_within 3 (some .int) 3 := ⟨gin 713 (by decide +kernel) rfl, gin 90 (by decide +kernel) rfl, by decide +kernel⟩
theorem ls_m_X10_within : Cond.static yX10_within ∈ gw := gin 712 (by decide +kernel) rfl
theorem lf_RX1_62 : FL RX1 62 3 0 := ⟨_, _, _, rfl, rfl, by decide, gin 166 (by decide +kernel) rfl⟩
theorem lm_X1_send : lkM yX1_send cX1_send 5 none 2 := ⟨gin 694 (by decide +kernel) rfl, gin 96 (by decide +kernel) rfl, by decide +kernel⟩
theorem lv_m_X1_send : Cond.instanceMethod yX1_send ∈ gw ∧ Cond.selects (yX1_send).cls yX1_send yX1_send ∈ gw := ⟨gin 693 (by decide +kernel) rfl, gin 1 (by decide +kernel) rfl⟩
theorem ll_RX1_69 : Cond.methodLink RX1 69 yX1_send ∈ gw := gin 691 (by decide +kernel) rfl
theorem lf_RX4_18 : FL RX4 18 4 0 := ⟨_, _, _, rfl, rfl, by decide, gin 406 (by decide +kernel) rfl⟩
theorem lp_RX4_18 : FP RX4 18 4 0 .int := ⟨_, _, _, rfl, rfl, by decide, gin 406 (by decide +kernel) rfl, rfl, by decide +kernel⟩
theorem lf_RX4_22 : FL RX4 22 4 1 := ⟨_, _, _, rfl, rfl, by decide, gin 409 (by decide +kernel) rfl⟩
theorem lp_RX4_22 : FP RX4 22 4 1 .int := ⟨_, _, _, rfl, rfl, by decide, gin 409 (by decide +kernel) rfl, rfl, by decide +kernel⟩
theorem lf_RX4_25 : FL RX4 25 4 2 := ⟨_, _, _, rfl, rfl, by decide, gin 412 (by decide +kernel) rfl⟩
theorem lp_RX4_25 : FP RX4 25 4 2 .int := ⟨_, _, _, rfl, rfl, by decide, gin 412 (by decide +kernel) rfl, rfl, by decide +kernel⟩
theorem lf_RX4_28 : FL RX4 28 4 3 := ⟨_, _, _, rfl, rfl, by decide, gin 415 (by decide +kernel) rfl⟩
theorem lp_RX4_28 : FP RX4 28 4 3 .int := ⟨_, _, _, rfl, rfl, by decide, gin 415 (by decide +kernel) rfl, rfl, by decide +kernel⟩
theorem lf_RX4_31 : FL RX4 31 4 4 := ⟨_, _, _, rfl, rfl, by decide, gin 417 (by decide +kernel) rfl⟩
theorem lp_RX4_31 : FP RX4 31 4 4 .int := ⟨_, _, _, rfl, rfl, by decide, gin 417 (by decide +kernel) rfl, rfl, by decide +kernel⟩
theorem lf_RX4_9 : FL RX4 9 4 5 := ⟨_, _, _, rfl, rfl, by decide, gin 418 (by decide +kernel) rfl⟩
theorem lf_RX4_15 : FL RX4 15 4 6 := ⟨_, _, _, rfl, rfl, by decide, gin 419 (by decide +kernel) rfl⟩
theorem lf_RX5_25 : FL RX5 25 5 0 := ⟨_, _, _, rfl, rfl, by decide, gin 435 (by decide +kernel) rfl⟩
theorem lp_RX5_25 : FP RX5 25 5 0 .int := ⟨_, _, _, rfl, rfl, by decide, gin 435 (by decide +kernel) rfl, rfl, by decide +kernel⟩
theorem lf_RX5_34 : FL RX5 34 5 1 := ⟨_, _, _, rfl, rfl, by decide, gin 439 (by decide +kernel) rfl⟩
theorem lp_RX5_34 : FP RX5 34 5 1 .int := ⟨_, _, _, rfl, rfl, by decide, gin 439 (by decide +kernel) rfl, rfl, by decide +kernel⟩
theorem lf_RX5_35 : FL RX5 35 5 2 := ⟨_, _, _, rfl, rfl, by decide, gin 443 (by decide +kernel) rfl⟩
theorem lp_RX5_35 : FP RX5 35 5 2 .int := ⟨_, _, _, rfl, rfl, by decide, gin 443 (by decide +kernel) rfl, rfl, by decide +kernel⟩
theorem lf_RX5_41 : FL RX5 41 5 3 := ⟨_, _, _, rfl, rfl, by decide, gin 446 (by decide +kernel) rfl⟩
theorem lp_RX5_41 : FP RX5 41 5 3 .int := ⟨_, _, _, rfl, rfl, by decide, gin 446 (by decide +kernel) rfl, rfl, by decide +kernel⟩
theorem lf_RX5_45 : FL RX5 45 5 4 := ⟨_, _, _, rfl, rfl, by decide, gin 448 (by decide +kernel) rfl⟩
theorem lp_RX5_45 : FP RX5 45 5 4 .int := ⟨_, _, _, rfl, rfl, by decide, gin 448 (by decide +kernel) rfl, rfl, by decide +kernel⟩
theorem lf_RX5_56 : FL RX5 56 5 5 := ⟨_, _, _, rfl, rfl, by decide, gin 450 (by decide +kernel) rfl⟩
theorem lp_RX5_56 : FP RX5 56 5 5 .int := ⟨_, _, _, rfl, rfl, by decide, gin 450 (by decide +kernel) rfl, rfl, by decide +kernel⟩
theorem lf_RX5_59 : FL RX5 59 5 6 := ⟨_, _, _, rfl, rfl, by decide, gin 452 (by decide +kernel) rfl⟩
theorem lp_RX5_59 : FP RX5 59 5 6 .int := ⟨_, _, _, rfl, rfl, by decide, gin 452 (by decide +kernel) rfl, rfl, by decide +kernel⟩
theorem lf_RX5_62 : FL RX5 62 5 7 := ⟨_, _, _, rfl, rfl, by decide, gin 455 (by decide +kernel) rfl⟩
theorem lp_RX5_62 : FP RX5 62 5 7 .int := ⟨_, _, _, rfl, rfl, by decide, gin 455 (by decide +kernel) rfl, rfl, by decide +kernel⟩
theorem lf_RX5_65 : FL RX5 65 5 8 := ⟨_, _, _, rfl, rfl, by decide, gin 457 (by decide +kernel) rfl⟩
theorem lp_RX5_65 : FP RX5 65 5 8 .int := ⟨_, _, _, rfl, rfl, by decide, gin 457 (by decide +kernel) rfl, rfl, by decide +kernel⟩
theorem lf_RX5_49 : FL RX5 49 5 9 := ⟨_, _, _, rfl, rfl, by decide, gin 459 (by decide +kernel) rfl⟩
theorem lp_RX5_49 : FP RX5 49 5 9 .int := ⟨_, _, _, rfl, rfl, by decide, gin 459 (by decide +kernel) rfl, rfl, by decide +kernel⟩
theorem lf_RX5_12 : FL RX5 12 5 10 := ⟨_, _, _, rfl, rfl, by decide, gin 462 (by decide +kernel) rfl⟩
theorem lf_RX5_21 : FL RX5 21 5 11 := ⟨_, _, _, rfl, rfl, by decide, gin 466 (by decide +kernel) rfl⟩
theorem lm_X4_copyFrom : lkM yX4_copyFrom cX4_copyFrom 2 none 1 := ⟨gin 854 (by decide +kernel) rfl, gin 99 (by decide +kernel) rfl, by decide +kernel⟩
theorem lv_m_X4_copyFrom : Cond.instanceMethod yX4_copyFrom ∈ gw ∧ Cond.selects (yX4_copyFrom).cls yX4_copyFrom yX4_copyFrom ∈ gw := ⟨gin 852 (by decide +kernel) rfl, gin 853 (by decide +kernel) rfl⟩
theorem ll_RX5_72 : Cond.methodLink RX5 72 yX4_copyFrom ∈ gw := gin 851 (by decide +kernel) rfl
theorem lc_4 : ∃ T N, vwCl[4]? = some (RX4, T, N) := ⟨_, _, rfl⟩
theorem lm_X0_copyFrom : lkM yX0_copyFrom cX0_copyFrom 2 none 1 := ⟨gin 849 (by decide +kernel) rfl, gin 98 (by decide +kernel) rfl, by decide +kernel⟩
theorem lv_m_X0_copyFrom : Cond.instanceMethod yX0_copyFrom ∈ gw ∧ Cond.selects (yX0_copyFrom).cls yX0_copyFrom yX0_copyFrom ∈ gw := ⟨gin 847 (by decide +kernel) rfl, gin 848 (by decide +kernel) rfl⟩
theorem ll_RX5_68 : Cond.methodLink RX5 68 yX0_copyFrom ∈ gw := gin 846 (by decide +kernel) rfl
theorem lf_RX9_25 : FL RX9 25 9 0 := ⟨_, _, _, rfl, rfl, by decide, gin 494 (by decide +kernel) rfl⟩
theorem lp_RX9_25 : FP RX9 25 9 0 .int := ⟨_, _, _, rfl, rfl, by decide, gin 494 (by decide +kernel) rfl, rfl, by decide +kernel⟩
theorem lf_RX9_12 : FL RX9 12 9 1 := ⟨_, _, _, rfl, rfl, by decide, gin 496 (by decide +kernel) rfl⟩
theorem lf_RX9_21 : FL RX9 21 9 2 := ⟨_, _, _, rfl, rfl, by decide, gin 499 (by decide +kernel) rfl⟩
theorem lm_X5_copyFrom : lkM yX5_copyFrom cX5_copyFrom 2 none 1 := ⟨gin 845 (by decide +kernel) rfl, gin 97 (by decide +kernel) rfl, by decide +kernel⟩
theorem lv_m_X5_copyFrom : Cond.instanceMethod yX5_copyFrom ∈ gw ∧ Cond.selects (yX5_copyFrom).cls yX5_copyFrom yX5_copyFrom ∈ gw := ⟨gin 843 (by decide +kernel) rfl, gin 844 (by decide +kernel) rfl⟩
theorem ll_RX9_38 : Cond.methodLink RX9 38 yX5_copyFrom ∈ gw := gin 842 (by decide +kernel) rfl
theorem lc_5 : ∃ T N, vwCl[5]? = some (RX5, T, N) := ⟨_, _, rfl⟩
theorem lm_X1_copyFrom : lkM yX1_copyFrom cX1_copyFrom 2 none 1 := ⟨gin 837 (by decide +kernel) rfl, gin 96 (by decide +kernel) rfl, by decide +kernel⟩
theorem lv_m_X1_copyFrom : Cond.instanceMethod yX1_copyFrom ∈ gw ∧ Cond.selects (yX1_copyFrom).cls yX1_copyFrom yX1_copyFrom ∈ gw := ⟨gin 835 (by decide +kernel) rfl, gin 836 (by decide +kernel) rfl⟩
theorem ll_RX9_34 : Cond.methodLink RX9 34 yX1_copyFrom ∈ gw := gin 834 (by decide +kernel) rfl
theorem lf_RX9_73 : FL RX9 73 1 8 := ⟨_, _, _, rfl, rfl, by decide, gin 303 (by decide +kernel) rfl⟩
theorem lp_RX9_73 : FP RX9 73 1 8 .int := ⟨_, _, _, rfl, rfl, by decide, gin 303 (by decide +kernel) rfl, rfl, by decide +kernel⟩
theorem lf_RX9_76 : FL RX9 76 1 10 := ⟨_, _, _, rfl, rfl, by decide, gin 309 (by decide +kernel) rfl⟩
theorem lf_RX9_88 : FL RX9 88 5 0 := ⟨_, _, _, rfl, rfl, by decide, gin 437 (by decide +kernel) rfl⟩
theorem lf_RX9_91 : FL RX9 91 5 10 := ⟨_, _, _, rfl, rfl, by decide, gin 464 (by decide +kernel) rfl⟩
theorem lf_RX9_95 : FL RX9 95 1 9 := ⟨_, _, _, rfl, rfl, by decide, gin 306 (by decide +kernel) rfl⟩
theorem lf_RX9_98 : FL RX9 98 1 11 := ⟨_, _, _, rfl, rfl, by decide, gin 312 (by decide +kernel) rfl⟩
theorem lm_X0_take : lkM yX0_take cX0_take 7 none 3 := ⟨gin 743 (by decide +kernel) rfl, gin 98 (by decide +kernel) rfl, by decide +kernel⟩
theorem lv_m_X0_take : Cond.instanceMethod yX0_take ∈ gw ∧ Cond.selects (yX0_take).cls yX0_take yX0_take ∈ gw := ⟨gin 741 (by decide +kernel) rfl, gin 742 (by decide +kernel) rfl⟩
theorem ll_RX9_107 : Cond.methodLink RX9 107 yX0_take ∈ gw := gin 740 (by decide +kernel) rfl
theorem lp_RX9_88 : FP RX9 88 5 0 .int := ⟨_, _, _, rfl, rfl, by decide, gin 437 (by decide +kernel) rfl, rfl, by decide +kernel⟩
theorem lm_X0_startAt : lkM yX0_startAt cX0_startAt 4 none 3 := ⟨gin 738 (by decide +kernel) rfl, gin 98 (by decide +kernel) rfl, by decide +kernel⟩
theorem lv_m_X0_startAt : Cond.instanceMethod yX0_startAt ∈ gw ∧ Cond.selects (yX0_startAt).cls yX0_startAt yX0_startAt ∈ gw := ⟨gin 736 (by decide +kernel) rfl, gin 737 (by decide +kernel) rfl⟩
theorem ll_RX9_101 : Cond.methodLink RX9 101 yX0_startAt ∈ gw := gin 735 (by decide +kernel) rfl
theorem lm_X1_moveFlying : lkM yX1_moveFlying cX1_moveFlying 3 none 2 := ⟨gin 733 (by decide +kernel) rfl, gin 96 (by decide +kernel) rfl, by decide +kernel⟩
theorem lv_m_X1_moveFlying : Cond.instanceMethod yX1_moveFlying ∈ gw ∧ Cond.selects (yX1_moveFlying).cls yX1_moveFlying yX1_moveFlying ∈ gw := ⟨gin 731 (by decide +kernel) rfl, gin 732 (by decide +kernel) rfl⟩
theorem ll_RX9_84 : Cond.methodLink RX9 84 yX1_moveFlying ∈ gw := gin 730 (by decide +kernel) rfl
theorem lm_X0_level : lkM yX0_level cX0_level 2 (some .int) 1 := ⟨gin 759 (by decide +kernel) rfl, gin 98 (by decide +kernel) rfl, by decide +kernel⟩
theorem lv_m_X0_level : Cond.instanceMethod yX0_level ∈ gw ∧ Cond.selects (yX0_level).cls yX0_level yX0_level ∈ gw := ⟨gin 757 (by decide +kernel) rfl, gin 758 (by decide +kernel) rfl⟩
theorem ll_RX5_75 : Cond.methodLink RX5 75 yX0_level ∈ gw := gin 756 (by decide +kernel) rfl
theorem lf_RX5_90 : FL RX5 90 3 0 := ⟨_, _, _, rfl, rfl, by decide, gin 167 (by decide +kernel) rfl⟩
theorem lf_RX5_94 : FL RX5 94 3 4 := ⟨_, _, _, rfl, rfl, by decide, gin 182 (by decide +kernel) rfl⟩
theorem lm_X4_addSample : lkM yX4_addSample cX4_addSample 2 none 1 := ⟨gin 766 (by decide +kernel) rfl, gin 99 (by decide +kernel) rfl, by decide +kernel⟩
theorem lv_m_X4_addSample : Cond.instanceMethod yX4_addSample ∈ gw ∧ Cond.selects (yX4_addSample).cls yX4_addSample yX4_addSample ∈ gw := ⟨gin 764 (by decide +kernel) rfl, gin 765 (by decide +kernel) rfl⟩
theorem ll_RX5_104 : Cond.methodLink RX5 104 yX4_addSample ∈ gw := gin 763 (by decide +kernel) rfl
theorem lm_X5_clearLoop : lkM yX5_clearLoop cX5_clearLoop 1 none 0 := ⟨gin 601 (by decide +kernel) rfl, gin 97 (by decide +kernel) rfl, by decide +kernel⟩
theorem lv_m_X5_clearLoop : Cond.instanceMethod yX5_clearLoop ∈ gw ∧ Cond.selects (yX5_clearLoop).cls yX5_clearLoop yX5_clearLoop ∈ gw := ⟨gin 600 (by decide +kernel) rfl, gin 0 (by decide +kernel) rfl⟩
theorem ll_RX5_46 : Cond.methodLink RX5 46 yX5_clearLoop ∈ gw := gin 598 (by decide +kernel) rfl
theorem lm_X5_level : lkM yX5_level cX5_level 2 (some .int) 1 := ⟨gin 755 (by decide +kernel) rfl, gin 97 (by decide +kernel) rfl, by decide +kernel⟩
theorem lv_m_X5_level : Cond.instanceMethod yX5_level ∈ gw ∧ Cond.selects (yX5_level).cls yX5_level yX5_level ∈ gw := ⟨gin 753 (by decide +kernel) rfl, gin 754 (by decide +kernel) rfl⟩
theorem ll_RX5_93 : Cond.methodLink RX5 93 yX5_level ∈ gw := gin 752 (by decide +kernel) rfl
theorem ll_RX4_38 : Cond.methodLink RX4 38 yJ9_min_7cf53 ∈ gw := gin 794 (by decide +kernel) rfl
theorem lm_X4_octetsKept : lkM yX4_octetsKept cX4_octetsKept 1 (some .int) 0 := ⟨gin 793 (by decide +kernel) rfl, gin 99 (by decide +kernel) rfl, by decide +kernel⟩
theorem lv_m_X4_octetsKept : Cond.instanceMethod yX4_octetsKept ∈ gw ∧ Cond.selects (yX4_octetsKept).cls yX4_octetsKept yX4_octetsKept ∈ gw := ⟨gin 791 (by decide +kernel) rfl, gin 792 (by decide +kernel) rfl⟩
theorem ll_RX4_51 : Cond.methodLink RX4 51 yX4_octetsKept ∈ gw := gin 790 (by decide +kernel) rfl
theorem lf_RX3_7 : FL RX3 7 3 8 := ⟨_, _, _, rfl, rfl, by decide, gin 194 (by decide +kernel) rfl⟩
theorem lf_RX3_48 : FL RX3 48 3 7 := ⟨_, _, _, rfl, rfl, by decide, gin 191 (by decide +kernel) rfl⟩
theorem lf_RX5_130 : FL RX5 130 0 0 := ⟨_, _, _, rfl, rfl, by decide, gin 361 (by decide +kernel) rfl⟩
theorem lp_RX5_130 : FP RX5 130 0 0 .int := ⟨_, _, _, rfl, rfl, by decide, gin 361 (by decide +kernel) rfl, rfl, by decide +kernel⟩
theorem lf_RX5_133 : FL RX5 133 4 3 := ⟨_, _, _, rfl, rfl, by decide, gin 416 (by decide +kernel) rfl⟩
theorem ll_RX5_136 : Cond.methodLink RX5 136 yX0_empty ∈ gw := gin 810 (by decide +kernel) rfl
theorem lf_RX5_124 : FL RX5 124 4 2 := ⟨_, _, _, rfl, rfl, by decide, gin 414 (by decide +kernel) rfl⟩
theorem lp_RX5_124 : FP RX5 124 4 2 .int := ⟨_, _, _, rfl, rfl, by decide, gin 414 (by decide +kernel) rfl, rfl, by decide +kernel⟩
theorem lm_X3_octet : lkM yX3_octet cX3_octet 2 (some .int) 1 := ⟨gin 803 (by decide +kernel) rfl, gin 92 (by decide +kernel) rfl, by decide +kernel⟩
theorem lv_m_X3_octet : Cond.instanceMethod yX3_octet ∈ gw ∧ Cond.selects (yX3_octet).cls yX3_octet yX3_octet ∈ gw := ⟨gin 801 (by decide +kernel) rfl, gin 802 (by decide +kernel) rfl⟩
theorem ll_RX5_121 : Cond.methodLink RX5 121 yX3_octet ∈ gw := gin 800 (by decide +kernel) rfl
theorem lc_3 : ∃ T N, vwCl[3]? = some (RX3, T, N) := ⟨_, _, rfl⟩
theorem lm_X0_indexDue : lkM yX0_indexDue cX0_indexDue 2 (some .int) 1 := ⟨gin 809 (by decide +kernel) rfl, gin 98 (by decide +kernel) rfl, by decide +kernel⟩
theorem lv_m_X0_indexDue : Cond.instanceMethod yX0_indexDue ∈ gw ∧ Cond.selects (yX0_indexDue).cls yX0_indexDue yX0_indexDue ∈ gw := ⟨gin 807 (by decide +kernel) rfl, gin 808 (by decide +kernel) rfl⟩
theorem ll_RX5_127 : Cond.methodLink RX5 127 yX0_indexDue ∈ gw := gin 806 (by decide +kernel) rfl
theorem lm_X4_hear : lkM yX4_hear cX4_hear 3 none 2 := ⟨gin 799 (by decide +kernel) rfl, gin 99 (by decide +kernel) rfl, by decide +kernel⟩
theorem lv_m_X4_hear : Cond.instanceMethod yX4_hear ∈ gw ∧ Cond.selects (yX4_hear).cls yX4_hear yX4_hear ∈ gw := ⟨gin 797 (by decide +kernel) rfl, gin 798 (by decide +kernel) rfl⟩
theorem ll_RX5_117 : Cond.methodLink RX5 117 yX4_hear ∈ gw := gin 796 (by decide +kernel) rfl
theorem lm_X4_latest : lkM yX4_latest cX4_latest 2 (some .int) 1 := ⟨gin 789 (by decide +kernel) rfl, gin 99 (by decide +kernel) rfl, by decide +kernel⟩
theorem lv_m_X4_latest : Cond.instanceMethod yX4_latest ∈ gw ∧ Cond.selects (yX4_latest).cls yX4_latest yX4_latest ∈ gw := ⟨gin 787 (by decide +kernel) rfl, gin 788 (by decide +kernel) rfl⟩
theorem ll_RX5_114 : Cond.methodLink RX5 114 yX4_latest ∈ gw := gin 786 (by decide +kernel) rfl
theorem lf_RX5_111 : FL RX5 111 3 6 := ⟨_, _, _, rfl, rfl, by decide, gin 189 (by decide +kernel) rfl⟩
theorem lm_X0_indexHere : lkM yX0_indexHere cX0_indexHere 4 (some .int) 1 := ⟨gin 784 (by decide +kernel) rfl, gin 98 (by decide +kernel) rfl, by decide +kernel⟩
theorem lv_m_X0_indexHere : Cond.instanceMethod yX0_indexHere ∈ gw ∧ Cond.selects (yX0_indexHere).cls yX0_indexHere yX0_indexHere ∈ gw := ⟨gin 782 (by decide +kernel) rfl, gin 783 (by decide +kernel) rfl⟩
theorem ll_RX5_108 : Cond.methodLink RX5 108 yX0_indexHere ∈ gw := gin 781 (by decide +kernel) rfl
theorem lf_RX9_52 : FL RX9 52 3 0 := ⟨_, _, _, rfl, rfl, by decide, gin 164 (by decide +kernel) rfl⟩
theorem lf_RX9_64 : FL RX9 64 1 0 := ⟨_, _, _, rfl, rfl, by decide, gin 282 (by decide +kernel) rfl⟩
theorem lm_X5_playOctet : lkM yX5_playOctet cX5_playOctet 4 none 1 := ⟨gin 780 (by decide +kernel) rfl, gin 97 (by decide +kernel) rfl, by decide +kernel⟩
theorem lv_m_X5_playOctet : Cond.instanceMethod yX5_playOctet ∈ gw ∧ Cond.selects (yX5_playOctet).cls yX5_playOctet yX5_playOctet ∈ gw := ⟨gin 778 (by decide +kernel) rfl, gin 779 (by decide +kernel) rfl⟩
theorem ll_RX9_70 : Cond.methodLink RX9 70 yX5_playOctet ∈ gw := gin 777 (by decide +kernel) rfl
theorem lm_X5_isOctetDue : lkM yX5_isOctetDue cX5_isOctetDue 1 (some .boolean) 0 := ⟨gin 776 (by decide +kernel) rfl, gin 97 (by decide +kernel) rfl, by decide +kernel⟩
theorem lv_m_X5_isOctetDue : Cond.instanceMethod yX5_isOctetDue ∈ gw ∧ Cond.selects (yX5_isOctetDue).cls yX5_isOctetDue yX5_isOctetDue ∈ gw := ⟨gin 774 (by decide +kernel) rfl, gin 775 (by decide +kernel) rfl⟩
theorem ll_RX9_69 : Cond.methodLink RX9 69 yX5_isOctetDue ∈ gw := gin 773 (by decide +kernel) rfl
theorem lm_X5_runClock : lkM yX5_runClock cX5_runClock 2 none 1 := ⟨gin 772 (by decide +kernel) rfl, gin 97 (by decide +kernel) rfl, by decide +kernel⟩
theorem lv_m_X5_runClock : Cond.instanceMethod yX5_runClock ∈ gw ∧ Cond.selects (yX5_runClock).cls yX5_runClock yX5_runClock ∈ gw := ⟨gin 770 (by decide +kernel) rfl, gin 771 (by decide +kernel) rfl⟩
theorem ll_RX9_67 : Cond.methodLink RX9 67 yX5_runClock ∈ gw := gin 769 (by decide +kernel) rfl
theorem lm_X5_steer : lkM yX5_steer cX5_steer 5 none 2 := ⟨gin 751 (by decide +kernel) rfl, gin 97 (by decide +kernel) rfl, by decide +kernel⟩
theorem lv_m_X5_steer : Cond.instanceMethod yX5_steer ∈ gw ∧ Cond.selects (yX5_steer).cls yX5_steer yX5_steer ∈ gw := ⟨gin 749 (by decide +kernel) rfl, gin 750 (by decide +kernel) rfl⟩
theorem ll_RX9_61 : Cond.methodLink RX9 61 yX5_steer ∈ gw := gin 748 (by decide +kernel) rfl
theorem lm_X9_receiveDue : lkM yX9_receiveDue cX9_receiveDue 4 none 1 := ⟨gin 728 (by decide +kernel) rfl, gin 95 (by decide +kernel) rfl, by decide +kernel⟩
theorem lv_m_X9_receiveDue : Cond.instanceMethod yX9_receiveDue ∈ gw ∧ Cond.selects (yX9_receiveDue).cls yX9_receiveDue yX9_receiveDue ∈ gw := ⟨gin 727 (by decide +kernel) rfl, gin 3 (by decide +kernel) rfl⟩
theorem ll_RX9_57 : Cond.methodLink RX9 57 yX9_receiveDue ∈ gw := gin 725 (by decide +kernel) rfl
theorem lc_9 : ∃ T N, vwCl[9]? = some (RX9, T, N) := ⟨_, _, rfl⟩
theorem lm_X1_makeOctet : lkM yX1_makeOctet cX1_makeOctet 3 none 2 := ⟨gin 684 (by decide +kernel) rfl, gin 96 (by decide +kernel) rfl, by decide +kernel⟩
theorem lv_m_X1_makeOctet : Cond.instanceMethod yX1_makeOctet ∈ gw ∧ Cond.selects (yX1_makeOctet).cls yX1_makeOctet yX1_makeOctet ∈ gw := ⟨gin 682 (by decide +kernel) rfl, gin 683 (by decide +kernel) rfl⟩
theorem ll_RX9_48 : Cond.methodLink RX9 48 yX1_makeOctet ∈ gw := gin 681 (by decide +kernel) rfl
theorem lm_X1_isOctetDue : lkM yX1_isOctetDue cX1_isOctetDue 1 (some .boolean) 0 := ⟨gin 680 (by decide +kernel) rfl, gin 96 (by decide +kernel) rfl, by decide +kernel⟩
theorem lv_m_X1_isOctetDue : Cond.instanceMethod yX1_isOctetDue ∈ gw ∧ Cond.selects (yX1_isOctetDue).cls yX1_isOctetDue yX1_isOctetDue ∈ gw := ⟨gin 678 (by decide +kernel) rfl, gin 679 (by decide +kernel) rfl⟩
theorem ll_RX9_44 : Cond.methodLink RX9 44 yX1_isOctetDue ∈ gw := gin 677 (by decide +kernel) rfl
theorem lm_X1_runClock : lkM yX1_runClock cX1_runClock 1 none 0 := ⟨gin 676 (by decide +kernel) rfl, gin 96 (by decide +kernel) rfl, by decide +kernel⟩
theorem lv_m_X1_runClock : Cond.instanceMethod yX1_runClock ∈ gw ∧ Cond.selects (yX1_runClock).cls yX1_runClock yX1_runClock ∈ gw := ⟨gin 674 (by decide +kernel) rfl, gin 675 (by decide +kernel) rfl⟩
theorem ll_RX9_41 : Cond.methodLink RX9 41 yX1_runClock ∈ gw := gin 673 (by decide +kernel) rfl
theorem lp_RX9_122 : FP RX9 122 5 1 .int := ⟨_, _, _, rfl, rfl, by decide, gin 442 (by decide +kernel) rfl, rfl, by decide +kernel⟩
theorem lm_X9_step : lkM yX9_step cX9_step 3 none 1 := ⟨gin 672 (by decide +kernel) rfl, gin 95 (by decide +kernel) rfl, by decide +kernel⟩
theorem lv_m_X9_step : Cond.instanceMethod yX9_step ∈ gw ∧ Cond.selects (yX9_step).cls yX9_step yX9_step ∈ gw := ⟨gin 670 (by decide +kernel) rfl, gin 671 (by decide +kernel) rfl⟩
theorem ll_RX9_110 : Cond.methodLink RX9 110 yX9_step ∈ gw := gin 669 (by decide +kernel) rfl
theorem lp_RX9_113 : FP RX9 113 1 6 .int := ⟨_, _, _, rfl, rfl, by decide, gin 295 (by decide +kernel) rfl, rfl, by decide +kernel⟩
theorem lp_RX9_116 : FP RX9 116 1 7 .int := ⟨_, _, _, rfl, rfl, by decide, gin 299 (by decide +kernel) rfl, rfl, by decide +kernel⟩
theorem lp_RX9_64 : FP RX9 64 1 0 .int := ⟨_, _, _, rfl, rfl, by decide, gin 282 (by decide +kernel) rfl, rfl, by decide +kernel⟩
theorem lp_RX9_119 : FP RX9 119 5 2 .int := ⟨_, _, _, rfl, rfl, by decide, gin 444 (by decide +kernel) rfl, rfl, by decide +kernel⟩
theorem lp_RX7_18 : FP RX7 18 7 1 .int := ⟨_, _, _, rfl, rfl, by decide, gin 141 (by decide +kernel) rfl, rfl, by decide +kernel⟩
theorem lp_RX3_26 : FP RX3 26 3 0 .int := ⟨_, _, _, rfl, rfl, by decide, gin 162 (by decide +kernel) rfl, rfl, by decide +kernel⟩
theorem lp_RX3_30 : FP RX3 30 3 1 .int := ⟨_, _, _, rfl, rfl, by decide, gin 170 (by decide +kernel) rfl, rfl, by decide +kernel⟩
theorem lp_RX3_33 : FP RX3 33 3 2 .int := ⟨_, _, _, rfl, rfl, by decide, gin 172 (by decide +kernel) rfl, rfl, by decide +kernel⟩
theorem lp_RX3_36 : FP RX3 36 3 3 .int := ⟨_, _, _, rfl, rfl, by decide, gin 176 (by decide +kernel) rfl, rfl, by decide +kernel⟩
theorem lp_RX3_39 : FP RX3 39 3 4 .int := ⟨_, _, _, rfl, rfl, by decide, gin 180 (by decide +kernel) rfl, rfl, by decide +kernel⟩
theorem lp_RX3_42 : FP RX3 42 3 5 .int := ⟨_, _, _, rfl, rfl, by decide, gin 185 (by decide +kernel) rfl, rfl, by decide +kernel⟩
theorem lp_RX3_45 : FP RX3 45 3 6 .int := ⟨_, _, _, rfl, rfl, by decide, gin 187 (by decide +kernel) rfl, rfl, by decide +kernel⟩
theorem lp_RX3_48 : FP RX3 48 3 7 .int := ⟨_, _, _, rfl, rfl, by decide, gin 191 (by decide +kernel) rfl, rfl, by decide +kernel⟩
theorem lf_RX3_16 : FL RX3 16 3 9 := ⟨_, _, _, rfl, rfl, by decide, gin 196 (by decide +kernel) rfl⟩
theorem lf_RX3_20 : FL RX3 20 3 10 := ⟨_, _, _, rfl, rfl, by decide, gin 199 (by decide +kernel) rfl⟩
theorem lm_X7_clear : lkM yX7_clear cX7_clear 1 none 0 := ⟨gin 161 (by decide +kernel) rfl, gin 93 (by decide +kernel) rfl, by decide +kernel⟩
theorem lv_m_X7_clear : Cond.instanceMethod yX7_clear ∈ gw ∧ Cond.selects (yX7_clear).cls yX7_clear yX7_clear ∈ gw := ⟨gin 159 (by decide +kernel) rfl, gin 160 (by decide +kernel) rfl⟩
theorem ll_RX3_57 : Cond.methodLink RX3 57 yX7_clear ∈ gw := gin 158 (by decide +kernel) rfl
theorem lm_X4_samplesKept : lkM yX4_samplesKept cX4_samplesKept 1 (some .int) 0 := ⟨gin 1140 (by decide +kernel) rfl, gin 99 (by decide +kernel) rfl, by decide +kernel⟩
theorem lv_m_X4_samplesKept : Cond.instanceMethod yX4_samplesKept ∈ gw ∧ Cond.selects (yX4_samplesKept).cls yX4_samplesKept yX4_samplesKept ∈ gw := ⟨gin 1138 (by decide +kernel) rfl, gin 1139 (by decide +kernel) rfl⟩
theorem ll_RX4_59 : Cond.methodLink RX4 59 yX4_samplesKept ∈ gw := gin 1227 (by decide +kernel) rfl
theorem lm_X4_latestIsFilled : lkM yX4_latestIsFilled cX4_latestIsFilled 2 (some .boolean) 1 := ⟨gin 1200 (by decide +kernel) rfl, gin 99 (by decide +kernel) rfl, by decide +kernel⟩
theorem lv_m_X4_latestIsFilled : Cond.instanceMethod yX4_latestIsFilled ∈ gw ∧ Cond.selects (yX4_latestIsFilled).cls yX4_latestIsFilled yX4_latestIsFilled ∈ gw := ⟨gin 1198 (by decide +kernel) rfl, gin 1199 (by decide +kernel) rfl⟩
theorem ll_RX4_62 : Cond.methodLink RX4 62 yX4_latestIsFilled ∈ gw := gin 1213 (by decide +kernel) rfl
theorem ll_RX4_69 : Cond.methodLink RX4 69 yJ9_max_7cf53 ∈ gw := gin 1245 (by decide +kernel) rfl
theorem lm_X4_sampleAt : lkM yX4_sampleAt cX4_sampleAt 2 (some .int) 1 := ⟨gin 1226 (by decide +kernel) rfl, gin 99 (by decide +kernel) rfl, by decide +kernel⟩
theorem lv_m_X4_sampleAt : Cond.instanceMethod yX4_sampleAt ∈ gw ∧ Cond.selects (yX4_sampleAt).cls yX4_sampleAt yX4_sampleAt ∈ gw := ⟨gin 1224 (by decide +kernel) rfl, gin 1225 (by decide +kernel) rfl⟩
theorem ll_RX4_72 : Cond.methodLink RX4 72 yX4_sampleAt ∈ gw := gin 1244 (by decide +kernel) rfl
theorem lm_X4_widthOf : lkM yX4_widthOf cX4_widthOf 7 (some .int) 2 := ⟨gin 1243 (by decide +kernel) rfl, gin 99 (by decide +kernel) rfl, by decide +kernel⟩
theorem lv_m_X4_widthOf : Cond.instanceMethod yX4_widthOf ∈ gw ∧ Cond.selects (yX4_widthOf).cls yX4_widthOf yX4_widthOf ∈ gw := ⟨gin 1242 (by decide +kernel) rfl, gin 22 (by decide +kernel) rfl⟩
theorem ll_RX4_66 : Cond.methodLink RX4 66 yX4_widthOf ∈ gw := gin 1240 (by decide +kernel) rfl
theorem lf_RX5_29 : FL RX5 29 3 1 := ⟨_, _, _, rfl, rfl, by decide, gin 169 (by decide +kernel) rfl⟩
theorem lf_RX5_38 : FL RX5 38 3 2 := ⟨_, _, _, rfl, rfl, by decide, gin 173 (by decide +kernel) rfl⟩
theorem lf_RX5_42 : FL RX5 42 3 3 := ⟨_, _, _, rfl, rfl, by decide, gin 177 (by decide +kernel) rfl⟩
theorem lm_X4_begin : lkM yX4_begin cX4_begin 1 none 0 := ⟨gin 616 (by decide +kernel) rfl, gin 99 (by decide +kernel) rfl, by decide +kernel⟩
theorem lv_m_X4_begin : Cond.instanceMethod yX4_begin ∈ gw ∧ Cond.selects (yX4_begin).cls yX4_begin yX4_begin ∈ gw := ⟨gin 614 (by decide +kernel) rfl, gin 615 (by decide +kernel) rfl⟩
theorem ll_RX5_55 : Cond.methodLink RX5 55 yX4_begin ∈ gw := gin 613 (by decide +kernel) rfl
theorem lm_X0_begin : lkM yX0_begin cX0_begin 1 none 0 := ⟨gin 605 (by decide +kernel) rfl, gin 98 (by decide +kernel) rfl, by decide +kernel⟩
theorem lv_m_X0_begin : Cond.instanceMethod yX0_begin ∈ gw ∧ Cond.selects (yX0_begin).cls yX0_begin yX0_begin ∈ gw := ⟨gin 603 (by decide +kernel) rfl, gin 604 (by decide +kernel) rfl⟩
theorem ll_RX5_52 : Cond.methodLink RX5 52 yX0_begin ∈ gw := gin 602 (by decide +kernel) rfl
theorem lf_RX5_79 : FL RX5 79 0 3 := ⟨_, _, _, rfl, rfl, by decide, gin 369 (by decide +kernel) rfl⟩
theorem lm_X0_spread : lkM yX0_spread cX0_spread 1 (some .int) 0 := ⟨gin 1135 (by decide +kernel) rfl, gin 98 (by decide +kernel) rfl, by decide +kernel⟩
theorem lv_m_X0_spread : Cond.instanceMethod yX0_spread ∈ gw ∧ Cond.selects (yX0_spread).cls yX0_spread yX0_spread ∈ gw := ⟨gin 1133 (by decide +kernel) rfl, gin 1134 (by decide +kernel) rfl⟩
theorem ll_RX5_82 : Cond.methodLink RX5 82 yX0_spread ∈ gw := gin 1132 (by decide +kernel) rfl
theorem lm_X5_begin : lkM yX5_begin cX5_begin 2 none 1 := ⟨gin 597 (by decide +kernel) rfl, gin 97 (by decide +kernel) rfl, by decide +kernel⟩
theorem lv_m_X5_begin : Cond.instanceMethod yX5_begin ∈ gw ∧ Cond.selects (yX5_begin).cls yX5_begin yX5_begin ∈ gw := ⟨gin 595 (by decide +kernel) rfl, gin 596 (by decide +kernel) rfl⟩
theorem ll_RX9_33 : Cond.methodLink RX9 33 yX5_begin ∈ gw := gin 594 (by decide +kernel) rfl
theorem lm_X1_begin : lkM yX1_begin cX1_begin 2 none 1 := ⟨gin 593 (by decide +kernel) rfl, gin 96 (by decide +kernel) rfl, by decide +kernel⟩
theorem lv_m_X1_begin : Cond.instanceMethod yX1_begin ∈ gw ∧ Cond.selects (yX1_begin).cls yX1_begin yX1_begin ∈ gw := ⟨gin 591 (by decide +kernel) rfl, gin 592 (by decide +kernel) rfl⟩
theorem ll_RX9_29 : Cond.methodLink RX9 29 yX1_begin ∈ gw := gin 590 (by decide +kernel) rfl
def l_J7_fill_53178_5 (r1_ : Nat) (n1_ : Nat) (x2_ : Int32) (y1 : Int32) (k2 : Int32) (M3 : Mem) : Option ((Int32 × Mem) ⊕ (Unit × Mem)) :=
  if y1 ≤ k2 then (some (.inr ((), M3))) else (gdi k2 n1_ (nm (wi M3 r1_ k2.toNatClampNeg x2_) (fun M4 => nm (k2 + (1 : Int32)) (fun y5 => some (.inl (y5, M4))))))
def f_J7_fill_53178 (r1_ : Nat) (n1_ : Nat) (x2_ : Int32) (M : Mem) : Option (Unit × Mem) :=
  nm (Int32.ofNat n1_) (fun y1 => lop2 FU (l_J7_fill_53178_5 r1_ n1_ x2_ y1) (0 : Int32) M)
set_option maxRecDepth 20000 in
theorem c_J7_fill_53178 {G : Ctx} (hW : WFG G) {r1_ : Nat} {n1_ : Nat} {x2_ : Int32} {M M' : Mem} (h1 : hs G r1_ (1, n1_)) (hf : f_J7_fill_53178 r1_ n1_ x2_ M = some ((), M')) : Ct G yJ7_fill_53178 cJ7_fill_53178 4 none 0 0 [.ref r1_, .int x2_] M none M' := by
  refine ct_v hW (by decide +kernel) (Nat.le_of_ble_eq_true rfl) (fun w h hr => ?_)
  have h : Rb G cJ7_fill_53178 RJ7 4 0 0 w := h
  refine (?_ : E (fun q => q = ((), M')) (f_J7_fill_53178 r1_ n1_ x2_ M) (w M 0 [(0, .ref r1_), (1, .int x2_)] [])) _ hf rfl
  unfold f_J7_fill_53178
  refine E.m (h.iconst (v := (0 : Int32)) dJ7_fill_53178_0 (by decide)) ?_
  refine E.m (h.istore_n dJ7_fill_53178_1 (by decide) rfl) ?_
  refine E.m (h.aload_n 1 dJ7_fill_53178_2 rfl) ?_
  refine E.m (h.alen (v := Int32.ofNat n1_) h1 rfl dJ7_fill_53178_3) ?_
  refine E.m (h.istore_n dJ7_fill_53178_4 (by decide) rfl) ?_
  refine E.nmL (fun y1 => ?_)
  refine E.m (h.sub [2, 3, 1, 0] rfl) ?_
  refine E.loop2 (fun k2 M3 => w M3 5 [(0, .ref r1_), (1, .int x2_), (2, .int k2), (3, .int y1)] []) (fun k2 M3 => ?_) _ _ _
  unfold l_J7_fill_53178_5
  refine E.m (h.iload_n 2 dJ7_fill_53178_5 rfl) ?_
  refine E.m (h.iload_n 3 dJ7_fill_53178_6 rfl) ?_
  refine E.br (fun k1 k2 => h.icmp_ge (tgt := 20) dJ7_fill_53178_7 (by decide) k1 k2) ?_ ?_
  · exact E.some (ret_v hr dJ7_fill_53178_20)
  · refine E.m (h.aload_n 0 dJ7_fill_53178_10 rfl) ?_
    refine E.m (h.iload_n 2 dJ7_fill_53178_11 rfl) ?_
    refine E.m (h.iload_n 1 dJ7_fill_53178_12 rfl) ?_
    refine E.gi (fun hi k => h.iast h1 hi dJ7_fill_53178_13 k) ?_
    refine E.nmM (fun M4 => ?_)
    refine E.m (h.iinc (v := (1 : Int32)) 2 dJ7_fill_53178_14 rfl (by decide) (by decide) rfl) ?_
    refine E.nmL (fun y5 => ?_)
    refine E.m (h.goto (tgt := 5) dJ7_fill_53178_17 (by decide)) ?_
    refine E.m (h.sub [1, 2, 0, 3] rfl) ?_
    exact E.some (fun q => q)
def f_X0_empty (t : Nat) (M : Mem) : Option (Unit × Mem) :=
  nm (wi M t 7 (-1 : Int32)) (fun M1 => bd (f_J7_fill_53178 (t + 1) 64 (-1 : Int32) M1) (fun _ M3 => some ((), M3)))
set_option maxRecDepth 20000 in
theorem c_X0_empty {G : Ctx} (hW : WFG G) {t : Nat} {M M' : Mem} (h0 : hs G t (0, 0)) (hf : f_X0_empty t M = some ((), M')) : Ct G yX0_empty cX0_empty 1 none 1 23 [.ref t] M none M' := by
  refine ct_v hW (by decide +kernel) (Nat.le_of_ble_eq_true rfl) (fun w h hr => ?_)
  have h : Rb G cX0_empty RX0 1 1 23 w := h
  refine (?_ : E (fun q => q = ((), M')) (f_X0_empty t M) (w M 0 [(0, .ref t)] [])) _ hf rfl
  unfold f_X0_empty
  refine E.m (h.aload_n 0 dX0_empty_0 rfl) ?_
  refine E.m (h.iconst (v := (-1 : Int32)) dX0_empty_1 (by decide)) ?_
  refine E.m (h.puti h0 lp_RX0_46 rfl dX0_empty_2) ?_
  refine E.nmM (fun M1 => ?_)
  refine E.m (h.aload_n 0 dX0_empty_5 rfl) ?_
  refine E.m (h.get h0 lf_RX0_9 dX0_empty_6 fv_0_9) ?_
  refine E.m (h.iconst (v := (-1 : Int32)) dX0_empty_9 (by decide)) ?_
  refine E.bnd (fun _ M3 => w M3 13 [(0, .ref t)] []) (fun _ M3 hf k => h.callS (As := [.ref (t + 1), .int (-1 : Int32)]) (rest := []) (c_J7_fill_53178 hW (hW.clo 0 h0 rfl) hf) lm_J7_fill_53178 ls_m_J7_fill_53178 ll_RX0_53 rfl rfl (Nat.le_of_ble_eq_true rfl) (by decide) dX0_empty_10 rfl k) (fun _ M3 => ?_)
  exact E.some (ret_v hr dX0_empty_13)
def f_X0_begin (t : Nat) (M : Mem) : Option (Unit × Mem) :=
  nm (wi M t 0 (0 : Int32)) (fun M1 => nm (wi M1 t 1 (0 : Int32)) (fun M2 => nm (wi M2 t 2 (0 : Int32)) (fun M3 => nm (wi M3 t 3 (0 : Int32)) (fun M4 => nm (wi M4 t 4 (0 : Int32)) (fun M5 => nm (wi M5 t 5 (0 : Int32)) (fun M6 => nm (wi M6 t 6 (0 : Int32)) (fun M7 => nm (wi M7 t 8 (0 : Int32)) (fun M8 => bd (f_X0_empty t M8) (fun _ M10 => some ((), M10))))))))))
set_option maxRecDepth 20000 in
theorem c_X0_begin {G : Ctx} (hW : WFG G) {t : Nat} {M M' : Mem} (h0 : hs G t (0, 0)) (hf : f_X0_begin t M = some ((), M')) : Ct G yX0_begin cX0_begin 1 none 2 43 [.ref t] M none M' := by
  refine ct_v hW (by decide +kernel) (Nat.le_of_ble_eq_true rfl) (fun w h hr => ?_)
  have h : Rb G cX0_begin RX0 1 2 43 w := h
  refine (?_ : E (fun q => q = ((), M')) (f_X0_begin t M) (w M 0 [(0, .ref t)] [])) _ hf rfl
  unfold f_X0_begin
  refine E.m (h.aload_n 0 dX0_begin_0 rfl) ?_
  refine E.m (h.iconst (v := (0 : Int32)) dX0_begin_1 (by decide)) ?_
  refine E.m (h.puti h0 lp_RX0_18 rfl dX0_begin_2) ?_
  refine E.nmM (fun M1 => ?_)
  refine E.m (h.aload_n 0 dX0_begin_5 rfl) ?_
  refine E.m (h.iconst (v := (0 : Int32)) dX0_begin_6 (by decide)) ?_
  refine E.m (h.puti h0 lp_RX0_22 rfl dX0_begin_7) ?_
  refine E.nmM (fun M2 => ?_)
  refine E.m (h.aload_n 0 dX0_begin_10 rfl) ?_
  refine E.m (h.iconst (v := (0 : Int32)) dX0_begin_11 (by decide)) ?_
  refine E.m (h.puti h0 lp_RX0_25 rfl dX0_begin_12) ?_
  refine E.nmM (fun M3 => ?_)
  refine E.m (h.aload_n 0 dX0_begin_15 rfl) ?_
  refine E.m (h.iconst (v := (0 : Int32)) dX0_begin_16 (by decide)) ?_
  refine E.m (h.puti h0 lp_RX0_28 rfl dX0_begin_17) ?_
  refine E.nmM (fun M4 => ?_)
  refine E.m (h.aload_n 0 dX0_begin_20 rfl) ?_
  refine E.m (h.iconst (v := (0 : Int32)) dX0_begin_21 (by decide)) ?_
  refine E.m (h.puti h0 lp_RX0_31 rfl dX0_begin_22) ?_
  refine E.nmM (fun M5 => ?_)
  refine E.m (h.aload_n 0 dX0_begin_25 rfl) ?_
  refine E.m (h.iconst (v := (0 : Int32)) dX0_begin_26 (by decide)) ?_
  refine E.m (h.puti h0 lp_RX0_34 rfl dX0_begin_27) ?_
  refine E.nmM (fun M6 => ?_)
  refine E.m (h.aload_n 0 dX0_begin_30 rfl) ?_
  refine E.m (h.iconst (v := (0 : Int32)) dX0_begin_31 (by decide)) ?_
  refine E.m (h.puti h0 lp_RX0_37 rfl dX0_begin_32) ?_
  refine E.nmM (fun M7 => ?_)
  refine E.m (h.aload_n 0 dX0_begin_35 rfl) ?_
  refine E.m (h.iconst (v := (0 : Int32)) dX0_begin_36 (by decide)) ?_
  refine E.m (h.puti h0 lp_RX0_40 rfl dX0_begin_37) ?_
  refine E.nmM (fun M8 => ?_)
  refine E.m (h.aload_n 0 dX0_begin_40 rfl) ?_
  refine E.bnd (fun _ M10 => w M10 44 [(0, .ref t)] []) (fun _ M10 hf k => h.callV (As := []) (rest := []) (c_X0_empty hW h0 hf) lm_X0_empty lv_m_X0_empty ll_RX0_43 h0 lc_0 rfl rfl (Nat.le_of_ble_eq_true rfl) (by decide) dX0_begin_41 rfl k) (fun _ M10 => ?_)
  exact E.some (ret_v hr dX0_begin_44)
def f_J9_min_7cf53 (x1_ : Int32) (x2_ : Int32) (M : Mem) : Option (Int32 × Mem) :=
  jn1 (fun z1 => some (z1, M)) (fun J10 => if x2_ < x1_ then (J10 x2_) else (J10 x1_))
set_option maxRecDepth 20000 in
theorem c_J9_min_7cf53 {G : Ctx} (hW : WFG G) {x1_ : Int32} {x2_ : Int32} {M M' : Mem} {r : Int32} (hf : f_J9_min_7cf53 x1_ x2_ M = some (r, M')) : Ct G yJ9_min_7cf53 cJ9_min_7cf53 2 (some .int) 0 0 [.int x1_, .int x2_] M (some (.int r)) M' := by
  refine ct_i hW (by decide +kernel) (Nat.le_of_ble_eq_true rfl) (fun w h hr => ?_)
  have h : Rb G cJ9_min_7cf53 RJ9 2 0 0 w := h
  refine (?_ : E (fun q => q = (r, M')) (f_J9_min_7cf53 x1_ x2_ M) (w M 0 [(0, .int x1_), (1, .int x2_)] [])) _ hf rfl
  unfold f_J9_min_7cf53
  refine E.m (h.iload_n 0 dJ9_min_7cf53_0 rfl) ?_
  refine E.m (h.iload_n 1 dJ9_min_7cf53_1 rfl) ?_
  refine E.join1 (fun z1 => w M 10 [(0, .int x1_), (1, .int x2_)] [.int z1]) (fun z1 => ?_) (fun J10 hJ10 => ?_)
  · exact E.some (ret_i hr rfl dJ9_min_7cf53_10)
  refine E.br (fun k1 k2 => h.icmp_gt (tgt := 9) dJ9_min_7cf53_2 (by decide) k1 k2) ?_ ?_
  · refine E.m (h.iload_n 1 dJ9_min_7cf53_9 rfl) ?_
    exact hJ10 _
  · refine E.m (h.iload_n 0 dJ9_min_7cf53_5 rfl) ?_
    refine E.m (h.goto (tgt := 10) dJ9_min_7cf53_6 (by decide)) ?_
    exact hJ10 _
def f_X10_copyRow (r1_ : Nat) (n1_ : Nat) (r2_ : Nat) (n2_ : Nat) (M : Mem) : Option (Unit × Mem) :=
  bd (f_J9_min_7cf53 (Int32.ofNat n1_) (Int32.ofNat n2_) M) (fun u1 M2 => gdp (0 ≤ (0 : Int32).toInt ∧ 0 ≤ (0 : Int32).toInt ∧ 0 ≤ u1.toInt ∧ (0 : Int32).toInt + u1.toInt ≤ ((n1_ : Nat) : Int) ∧ (0 : Int32).toInt + u1.toInt ≤ ((n2_ : Nat) : Int)) (nm (wcp M2 r1_ r2_ (0 : Int32) (0 : Int32) u1) (fun M3 => some ((), M3))))
set_option maxRecDepth 20000 in
theorem c_X10_copyRow {G : Ctx} (hW : WFG G) {r1_ : Nat} {n1_ : Nat} {r2_ : Nat} {n2_ : Nat} {M M' : Mem} (h1 : hs G r1_ (1, n1_)) (h2 : hs G r2_ (1, n2_)) (hf : f_X10_copyRow r1_ n1_ r2_ n2_ M = some ((), M')) : Ct G yX10_copyRow cX10_copyRow 2 none 1 64 [.ref r1_, .ref r2_] M none M' := by
  refine ct_v hW (by decide +kernel) (Nat.le_of_ble_eq_true rfl) (fun w h hr => ?_)
  have h : Rb G cX10_copyRow RX10 2 1 64 w := h
  refine (?_ : E (fun q => q = ((), M')) (f_X10_copyRow r1_ n1_ r2_ n2_ M) (w M 0 [(0, .ref r1_), (1, .ref r2_)] [])) _ hf rfl
  unfold f_X10_copyRow
  refine E.m (h.aload_n 0 dX10_copyRow_0 rfl) ?_
  refine E.m (h.iconst (v := (0 : Int32)) dX10_copyRow_1 (by decide)) ?_
  refine E.m (h.aload_n 1 dX10_copyRow_2 rfl) ?_
  refine E.m (h.iconst (v := (0 : Int32)) dX10_copyRow_3 (by decide)) ?_
  refine E.m (h.aload_n 0 dX10_copyRow_4 rfl) ?_
  refine E.m (h.alen (v := Int32.ofNat n1_) h1 rfl dX10_copyRow_5) ?_
  refine E.m (h.aload_n 1 dX10_copyRow_6 rfl) ?_
  refine E.m (h.alen (v := Int32.ofNat n2_) h2 rfl dX10_copyRow_7) ?_
  refine E.bnd (fun u1 M2 => w M2 11 [(0, .ref r1_), (1, .ref r2_)] [.int u1, .int (0 : Int32), .ref r2_, .int (0 : Int32), .ref r1_]) (fun u1 M2 hf k => h.callS (As := [.int (Int32.ofNat n1_), .int (Int32.ofNat n2_)]) (rest := [.int (0 : Int32), .ref r2_, .int (0 : Int32), .ref r1_]) (c_J9_min_7cf53 hW hf) lm_J9_min_7cf53 ls_m_J9_min_7cf53 ll_RX10_361 rfl rfl (Nat.le_of_ble_eq_true rfl) (by decide) dX10_copyRow_8 rfl k) (fun u1 M2 => ?_)
  refine E.gd (fun hg k => h.acopy h1 h2 hg ll_RX10_367 (by decide) (Nat.le_of_ble_eq_true rfl) dX10_copyRow_11 k) (fun _ => ?_)
  refine E.nmM (fun M3 => ?_)
  exact E.some (ret_v hr dX10_copyRow_14)
def f_X0_copyFrom (t : Nat) (r1_ : Nat) (M : Mem) : Option (Unit × Mem) :=
  nm (wi M t 0 (M.1 r1_ 0)) (fun M1 => nm (wi M1 t 1 (M1.1 r1_ 1)) (fun M2 => nm (wi M2 t 2 (M2.1 r1_ 2)) (fun M3 => nm (wi M3 t 3 (M3.1 r1_ 3)) (fun M4 => nm (wi M4 t 4 (M4.1 r1_ 4)) (fun M5 => nm (wi M5 t 5 (M5.1 r1_ 5)) (fun M6 => nm (wi M6 t 6 (M6.1 r1_ 6)) (fun M7 => nm (wi M7 t 7 (M7.1 r1_ 7)) (fun M8 => nm (wi M8 t 8 (M8.1 r1_ 8)) (fun M9 => bd (f_X10_copyRow (r1_ + 1) 64 (t + 1) 64 M9) (fun _ M11 => bd (f_X10_copyRow (r1_ + 2) 64 (t + 2) 64 M11) (fun _ M13 => some ((), M13))))))))))))
set_option maxRecDepth 20000 in
theorem c_X0_copyFrom {G : Ctx} (hW : WFG G) {t : Nat} {r1_ : Nat} {M M' : Mem} (h0 : hs G t (0, 0)) (h1 : hs G r1_ (0, 0)) (hf : f_X0_copyFrom t r1_ M = some ((), M')) : Ct G yX0_copyFrom cX0_copyFrom 2 none 2 85 [.ref t, .ref r1_] M none M' := by
  refine ct_v hW (by decide +kernel) (Nat.le_of_ble_eq_true rfl) (fun w h hr => ?_)
  have h : Rb G cX0_copyFrom RX0 2 2 85 w := h
  refine (?_ : E (fun q => q = ((), M')) (f_X0_copyFrom t r1_ M) (w M 0 [(0, .ref t), (1, .ref r1_)] [])) _ hf rfl
  unfold f_X0_copyFrom
  refine E.m (h.aload_n 0 dX0_copyFrom_0 rfl) ?_
  refine E.m (h.aload_n 1 dX0_copyFrom_1 rfl) ?_
  refine E.m (h.get h1 lf_RX0_18 dX0_copyFrom_2 fv_0_0) ?_
  refine E.m (h.puti h0 lp_RX0_18 rfl dX0_copyFrom_5) ?_
  refine E.nmM (fun M1 => ?_)
  refine E.m (h.aload_n 0 dX0_copyFrom_8 rfl) ?_
  refine E.m (h.aload_n 1 dX0_copyFrom_9 rfl) ?_
  refine E.m (h.get h1 lf_RX0_22 dX0_copyFrom_10 fv_0_1) ?_
  refine E.m (h.puti h0 lp_RX0_22 rfl dX0_copyFrom_13) ?_
  refine E.nmM (fun M2 => ?_)
  refine E.m (h.aload_n 0 dX0_copyFrom_16 rfl) ?_
  refine E.m (h.aload_n 1 dX0_copyFrom_17 rfl) ?_
  refine E.m (h.get h1 lf_RX0_25 dX0_copyFrom_18 fv_0_2) ?_
  refine E.m (h.puti h0 lp_RX0_25 rfl dX0_copyFrom_21) ?_
  refine E.nmM (fun M3 => ?_)
  refine E.m (h.aload_n 0 dX0_copyFrom_24 rfl) ?_
  refine E.m (h.aload_n 1 dX0_copyFrom_25 rfl) ?_
  refine E.m (h.get h1 lf_RX0_28 dX0_copyFrom_26 fv_0_3) ?_
  refine E.m (h.puti h0 lp_RX0_28 rfl dX0_copyFrom_29) ?_
  refine E.nmM (fun M4 => ?_)
  refine E.m (h.aload_n 0 dX0_copyFrom_32 rfl) ?_
  refine E.m (h.aload_n 1 dX0_copyFrom_33 rfl) ?_
  refine E.m (h.get h1 lf_RX0_31 dX0_copyFrom_34 fv_0_4) ?_
  refine E.m (h.puti h0 lp_RX0_31 rfl dX0_copyFrom_37) ?_
  refine E.nmM (fun M5 => ?_)
  refine E.m (h.aload_n 0 dX0_copyFrom_40 rfl) ?_
  refine E.m (h.aload_n 1 dX0_copyFrom_41 rfl) ?_
  refine E.m (h.get h1 lf_RX0_34 dX0_copyFrom_42 fv_0_5) ?_
  refine E.m (h.puti h0 lp_RX0_34 rfl dX0_copyFrom_45) ?_
  refine E.nmM (fun M6 => ?_)
  refine E.m (h.aload_n 0 dX0_copyFrom_48 rfl) ?_
  refine E.m (h.aload_n 1 dX0_copyFrom_49 rfl) ?_
  refine E.m (h.get h1 lf_RX0_37 dX0_copyFrom_50 fv_0_6) ?_
  refine E.m (h.puti h0 lp_RX0_37 rfl dX0_copyFrom_53) ?_
  refine E.nmM (fun M7 => ?_)
  refine E.m (h.aload_n 0 dX0_copyFrom_56 rfl) ?_
  refine E.m (h.aload_n 1 dX0_copyFrom_57 rfl) ?_
  refine E.m (h.get h1 lf_RX0_46 dX0_copyFrom_58 fv_0_7) ?_
  refine E.m (h.puti h0 lp_RX0_46 rfl dX0_copyFrom_61) ?_
  refine E.nmM (fun M8 => ?_)
  refine E.m (h.aload_n 0 dX0_copyFrom_64 rfl) ?_
  refine E.m (h.aload_n 1 dX0_copyFrom_65 rfl) ?_
  refine E.m (h.get h1 lf_RX0_40 dX0_copyFrom_66 fv_0_8) ?_
  refine E.m (h.puti h0 lp_RX0_40 rfl dX0_copyFrom_69) ?_
  refine E.nmM (fun M9 => ?_)
  refine E.m (h.aload_n 1 dX0_copyFrom_72 rfl) ?_
  refine E.m (h.get h1 lf_RX0_9 dX0_copyFrom_73 fv_0_9) ?_
  refine E.m (h.aload_n 0 dX0_copyFrom_76 rfl) ?_
  refine E.m (h.get h0 lf_RX0_9 dX0_copyFrom_77 fv_0_9) ?_
  refine E.bnd (fun _ M11 => w M11 83 [(0, .ref t), (1, .ref r1_)] []) (fun _ M11 hf k => h.callSN (As := [.ref (r1_ + 1), .ref (t + 1)]) (rest := []) (c_X10_copyRow hW (hW.clo 0 h1 rfl) (hW.clo 0 h0 rfl) hf) lm_X10_copyRow ls_m_X10_copyRow 33 rfl rfl rfl (Nat.le_of_ble_eq_true rfl) (by decide) dX0_copyFrom_80 rfl k) (fun _ M11 => ?_)
  refine E.m (h.aload_n 1 dX0_copyFrom_83 rfl) ?_
  refine E.m (h.get h1 lf_RX0_15 dX0_copyFrom_84 fv_0_10) ?_
  refine E.m (h.aload_n 0 dX0_copyFrom_87 rfl) ?_
  refine E.m (h.get h0 lf_RX0_15 dX0_copyFrom_88 fv_0_10) ?_
  refine E.bnd (fun _ M13 => w M13 94 [(0, .ref t), (1, .ref r1_)] []) (fun _ M13 hf k => h.callSN (As := [.ref (r1_ + 2), .ref (t + 2)]) (rest := []) (c_X10_copyRow hW (hW.clo 1 h1 rfl) (hW.clo 1 h0 rfl) hf) lm_X10_copyRow ls_m_X10_copyRow 33 rfl rfl rfl (Nat.le_of_ble_eq_true rfl) (by decide) dX0_copyFrom_91 rfl k) (fun _ M13 => ?_)
  exact E.some (ret_v hr dX0_copyFrom_94)
def f_J9_floorMod_7cf53 (x1_ : Int32) (x2_ : Int32) (M : Mem) : Option (Int32 × Mem) :=
  gdp (¬ x2_ = 0) (nm (x1_ - x1_ / x2_ * x2_) (fun y1 => jn0 (fun _ => some (y1, M)) (fun J18 => if 0 ≤ (x1_ ^^^ x2_) then (J18 ()) else (if y1 = 0 then (J18 ()) else (some (y1 + x2_, M))))))
set_option maxRecDepth 20000 in
theorem c_J9_floorMod_7cf53 {G : Ctx} (hW : WFG G) {x1_ : Int32} {x2_ : Int32} {M M' : Mem} {r : Int32} (hf : f_J9_floorMod_7cf53 x1_ x2_ M = some (r, M')) : Ct G yJ9_floorMod_7cf53 cJ9_floorMod_7cf53 3 (some .int) 0 0 [.int x1_, .int x2_] M (some (.int r)) M' := by
  refine ct_i hW (by decide +kernel) (Nat.le_of_ble_eq_true rfl) (fun w h hr => ?_)
  have h : Rb G cJ9_floorMod_7cf53 RJ9 3 0 0 w := h
  refine (?_ : E (fun q => q = (r, M')) (f_J9_floorMod_7cf53 x1_ x2_ M) (w M 0 [(0, .int x1_), (1, .int x2_)] [])) _ hf rfl
  unfold f_J9_floorMod_7cf53
  refine E.m (h.iload_n 0 dJ9_floorMod_7cf53_0 rfl) ?_
  refine E.m (h.iload_n 1 dJ9_floorMod_7cf53_1 rfl) ?_
  refine E.gd (fun hc k => h.irem hc dJ9_floorMod_7cf53_2 k) (fun _ => ?_)
  refine E.m (h.istore_n dJ9_floorMod_7cf53_3 (by decide) rfl) ?_
  refine E.nmL (fun y1 => ?_)
  refine E.m (h.iload_n 1 dJ9_floorMod_7cf53_4 rfl) ?_
  refine E.m (h.iload_n 2 dJ9_floorMod_7cf53_5 rfl) ?_
  refine E.m (h.ixor dJ9_floorMod_7cf53_6) ?_
  refine E.join0 (fun _ => w M 18 [(0, .int x1_), (1, .int x2_), (2, .int y1)] []) (fun _ => ?_) (fun J18 hJ18 => ?_)
  · refine E.m (h.iload_n 2 dJ9_floorMod_7cf53_18 rfl) ?_
    exact E.some (ret_i hr rfl dJ9_floorMod_7cf53_19)
  refine E.br (fun k1 k2 => h.if_ge (tgt := 18) dJ9_floorMod_7cf53_7 (by decide) k1 k2) ?_ ?_
  · refine E.m (h.sub [1, 2, 0] rfl) ?_
    exact hJ18 ()
  · refine E.m (h.iload_n 0 dJ9_floorMod_7cf53_10 rfl) ?_
    refine E.br (fun k1 k2 => h.if_eq (tgt := 18) dJ9_floorMod_7cf53_11 (by decide) k1 k2) ?_ ?_
    · refine E.m (h.sub [1, 2, 0] rfl) ?_
      exact hJ18 ()
    · refine E.m (h.iload_n 0 dJ9_floorMod_7cf53_14 rfl) ?_
      refine E.m (h.iload_n 2 dJ9_floorMod_7cf53_15 rfl) ?_
      refine E.m (h.iadd dJ9_floorMod_7cf53_16) ?_
      exact E.some (ret_i hr rfl dJ9_floorMod_7cf53_17)
def f_X10_mod (x1_ : Int32) (x2_ : Int32) (M : Mem) : Option (Int32 × Mem) :=
  jn2 (fun z1 M2 => some (z1, M2)) (fun J13 => if 0 < x2_ then (bd (f_J9_floorMod_7cf53 x1_ x2_ M) (fun u3 M4 => J13 u3 M4)) else (J13 (0 : Int32) M))
set_option maxRecDepth 20000 in
theorem c_X10_mod {G : Ctx} (hW : WFG G) {x1_ : Int32} {x2_ : Int32} {M M' : Mem} {r : Int32} (hf : f_X10_mod x1_ x2_ M = some (r, M')) : Ct G yX10_mod cX10_mod 2 (some .int) 1 22 [.int x1_, .int x2_] M (some (.int r)) M' := by
  refine ct_i hW (by decide +kernel) (Nat.le_of_ble_eq_true rfl) (fun w h hr => ?_)
  have h : Rb G cX10_mod RX10 2 1 22 w := h
  refine (?_ : E (fun q => q = (r, M')) (f_X10_mod x1_ x2_ M) (w M 0 [(0, .int x1_), (1, .int x2_)] [])) _ hf rfl
  unfold f_X10_mod
  refine E.m (h.iload_n 1 dX10_mod_0 rfl) ?_
  refine E.join2 (fun z1 M2 => w M2 13 [(0, .int x1_), (1, .int x2_)] [.int z1]) (fun z1 M2 => ?_) (fun J13 hJ13 => ?_)
  · exact E.some (ret_i hr rfl dX10_mod_13)
  refine E.br (fun k1 k2 => h.if_gt (tgt := 8) dX10_mod_1 (by decide) k1 k2) ?_ ?_
  · refine E.m (h.iload_n 0 dX10_mod_8 rfl) ?_
    refine E.m (h.iload_n 1 dX10_mod_9 rfl) ?_
    refine E.bnd (fun u3 M4 => w M4 13 [(0, .int x1_), (1, .int x2_)] [.int u3]) (fun u3 M4 hf k => h.callS (As := [.int x1_, .int x2_]) (rest := []) (c_J9_floorMod_7cf53 hW hf) lm_J9_floorMod_7cf53 ls_m_J9_floorMod_7cf53 ll_RX10_356 rfl rfl (Nat.le_of_ble_eq_true rfl) (by decide) dX10_mod_10 rfl k) (fun u3 M4 => ?_)
    exact hJ13 _ _
  · refine E.m (h.iconst (v := (0 : Int32)) dX10_mod_4 (by decide)) ?_
    refine E.m (h.goto (tgt := 13) dX10_mod_5 (by decide)) ?_
    exact hJ13 _ _
def f_X0_startAt (t : Nat) (x1_ : Int32) (x2_ : Int32) (x3_ : Int32) (M : Mem) : Option (Unit × Mem) :=
  bd (f_X10_mod x1_ (64 : Int32) M) (fun u1 M2 => nm (wi M2 t 6 u1) (fun M3 => nm (wi M3 t 4 x1_) (fun M4 => nm (wi M4 t 5 (x3_ * (M4.1 t 6))) (fun M5 => nm (wi M5 t 0 (M5.1 t 5)) (fun M6 => nm (wi M6 t 7 (M6.1 t 6)) (fun M7 => nm (wi M7 t 8 x2_) (fun M8 => nm (wi M8 t 3 (0 : Int32)) (fun M9 => some ((), M9)))))))))
set_option maxRecDepth 20000 in
theorem c_X0_startAt {G : Ctx} (hW : WFG G) {t : Nat} {x1_ : Int32} {x2_ : Int32} {x3_ : Int32} {M M' : Mem} (h0 : hs G t (0, 0)) (hf : f_X0_startAt t x1_ x2_ x3_ M = some ((), M')) : Ct G yX0_startAt cX0_startAt 4 none 2 43 [.ref t, .int x1_, .int x2_, .int x3_] M none M' := by
  refine ct_v hW (by decide +kernel) (Nat.le_of_ble_eq_true rfl) (fun w h hr => ?_)
  have h : Rb G cX0_startAt RX0 4 2 43 w := h
  refine (?_ : E (fun q => q = ((), M')) (f_X0_startAt t x1_ x2_ x3_ M) (w M 0 [(0, .ref t), (1, .int x1_), (2, .int x2_), (3, .int x3_)] [])) _ hf rfl
  unfold f_X0_startAt
  refine E.m (h.aload_n 0 dX0_startAt_0 rfl) ?_
  refine E.m (h.iload_n 1 dX0_startAt_1 rfl) ?_
  refine E.m (h.bipush (v := (64 : Int32)) dX0_startAt_2 (by decide)) ?_
  refine E.bnd (fun u1 M2 => w M2 7 [(0, .ref t), (1, .int x1_), (2, .int x2_), (3, .int x3_)] [.int u1, .ref t]) (fun u1 M2 hf k => h.callSN (As := [.int x1_, .int (64 : Int32)]) (rest := [.ref t]) (c_X10_mod hW hf) lm_X10_mod ls_m_X10_mod 21 rfl rfl rfl (Nat.le_of_ble_eq_true rfl) (by decide) dX0_startAt_4 rfl k) (fun u1 M2 => ?_)
  refine E.m (h.puti h0 lp_RX0_37 rfl dX0_startAt_7) ?_
  refine E.nmM (fun M3 => ?_)
  refine E.m (h.aload_n 0 dX0_startAt_10 rfl) ?_
  refine E.m (h.iload_n 1 dX0_startAt_11 rfl) ?_
  refine E.m (h.puti h0 lp_RX0_31 rfl dX0_startAt_12) ?_
  refine E.nmM (fun M4 => ?_)
  refine E.m (h.aload_n 0 dX0_startAt_15 rfl) ?_
  refine E.m (h.iload_n 3 dX0_startAt_16 rfl) ?_
  refine E.m (h.aload_n 0 dX0_startAt_17 rfl) ?_
  refine E.m (h.get h0 lf_RX0_37 dX0_startAt_18 fv_0_6) ?_
  refine E.m (h.imul dX0_startAt_21) ?_
  refine E.m (h.puti h0 lp_RX0_34 rfl dX0_startAt_22) ?_
  refine E.nmM (fun M5 => ?_)
  refine E.m (h.aload_n 0 dX0_startAt_25 rfl) ?_
  refine E.m (h.aload_n 0 dX0_startAt_26 rfl) ?_
  refine E.m (h.get h0 lf_RX0_34 dX0_startAt_27 fv_0_5) ?_
  refine E.m (h.puti h0 lp_RX0_18 rfl dX0_startAt_30) ?_
  refine E.nmM (fun M6 => ?_)
  refine E.m (h.aload_n 0 dX0_startAt_33 rfl) ?_
  refine E.m (h.aload_n 0 dX0_startAt_34 rfl) ?_
  refine E.m (h.get h0 lf_RX0_37 dX0_startAt_35 fv_0_6) ?_
  refine E.m (h.puti h0 lp_RX0_46 rfl dX0_startAt_38) ?_
  refine E.nmM (fun M7 => ?_)
  refine E.m (h.aload_n 0 dX0_startAt_41 rfl) ?_
  refine E.m (h.iload_n 2 dX0_startAt_42 rfl) ?_
  refine E.m (h.puti h0 lp_RX0_40 rfl dX0_startAt_43) ?_
  refine E.nmM (fun M8 => ?_)
  refine E.m (h.aload_n 0 dX0_startAt_46 rfl) ?_
  refine E.m (h.iconst (v := (0 : Int32)) dX0_startAt_47 (by decide)) ?_
  refine E.m (h.puti h0 lp_RX0_28 rfl dX0_startAt_48) ?_
  refine E.nmM (fun M9 => ?_)
  exact E.some (ret_v hr dX0_startAt_51)
def f_X10_by (x1_ : Int32) (x2_ : Int32) (M : Mem) : Option (Int32 × Mem) :=
  jn1 (fun z1 => some (z1, M)) (fun J11 => if x2_ = 0 then (J11 (0 : Int32)) else (gdp (¬ x2_ = 0) (J11 (x1_ / x2_))))
set_option maxRecDepth 20000 in
theorem c_X10_by {G : Ctx} (hW : WFG G) {x1_ : Int32} {x2_ : Int32} {M M' : Mem} {r : Int32} (hf : f_X10_by x1_ x2_ M = some (r, M')) : Ct G yX10_by cX10_by 2 (some .int) 0 0 [.int x1_, .int x2_] M (some (.int r)) M' := by
  refine ct_i hW (by decide +kernel) (Nat.le_of_ble_eq_true rfl) (fun w h hr => ?_)
  have h : Rb G cX10_by RX10 2 0 0 w := h
  refine (?_ : E (fun q => q = (r, M')) (f_X10_by x1_ x2_ M) (w M 0 [(0, .int x1_), (1, .int x2_)] [])) _ hf rfl
  unfold f_X10_by
  refine E.m (h.iload_n 1 dX10_by_0 rfl) ?_
  refine E.join1 (fun z1 => w M 11 [(0, .int x1_), (1, .int x2_)] [.int z1]) (fun z1 => ?_) (fun J11 hJ11 => ?_)
  · exact E.some (ret_i hr rfl dX10_by_11)
  refine E.br (fun k1 k2 => h.if_ne (tgt := 8) dX10_by_1 (by decide) k2 k1) ?_ ?_
  · refine E.m (h.iconst (v := (0 : Int32)) dX10_by_4 (by decide)) ?_
    refine E.m (h.goto (tgt := 11) dX10_by_5 (by decide)) ?_
    exact hJ11 _
  · refine E.m (h.iload_n 0 dX10_by_8 rfl) ?_
    refine E.m (h.iload_n 1 dX10_by_9 rfl) ?_
    refine E.gd (fun hc k => h.idiv hc dX10_by_10 k) (fun _ => ?_)
    exact hJ11 _
def f_X10_put (r1_ : Nat) (n1_ : Nat) (x2_ : Int32) (x3_ : Int32) (M : Mem) : Option (Unit × Mem) :=
  jn1 (fun M1 => some ((), M1)) (fun J14 => if x2_ < 0 then (J14 M) else (if (Int32.ofNat n1_) ≤ x2_ then (J14 M) else (gdi x2_ n1_ (nm (wi M r1_ x2_.toNatClampNeg x3_) (fun M2 => J14 M2)))))
set_option maxRecDepth 20000 in
theorem c_X10_put {G : Ctx} (hW : WFG G) {r1_ : Nat} {n1_ : Nat} {x2_ : Int32} {x3_ : Int32} {M M' : Mem} (h1 : hs G r1_ (1, n1_)) (hf : f_X10_put r1_ n1_ x2_ x3_ M = some ((), M')) : Ct G yX10_put cX10_put 3 none 0 0 [.ref r1_, .int x2_, .int x3_] M none M' := by
  refine ct_v hW (by decide +kernel) (Nat.le_of_ble_eq_true rfl) (fun w h hr => ?_)
  have h : Rb G cX10_put RX10 3 0 0 w := h
  refine (?_ : E (fun q => q = ((), M')) (f_X10_put r1_ n1_ x2_ x3_ M) (w M 0 [(0, .ref r1_), (1, .int x2_), (2, .int x3_)] [])) _ hf rfl
  unfold f_X10_put
  refine E.m (h.iload_n 1 dX10_put_0 rfl) ?_
  refine E.join1 (fun M1 => w M1 14 [(0, .ref r1_), (1, .int x2_), (2, .int x3_)] []) (fun M1 => ?_) (fun J14 hJ14 => ?_)
  · exact E.some (ret_v hr dX10_put_14)
  refine E.br (fun k1 k2 => h.if_lt (tgt := 14) dX10_put_1 (by decide) k1 k2) ?_ ?_
  · exact hJ14 _
  · refine E.m (h.iload_n 1 dX10_put_4 rfl) ?_
    refine E.m (h.aload_n 0 dX10_put_5 rfl) ?_
    refine E.m (h.alen (v := Int32.ofNat n1_) h1 rfl dX10_put_6) ?_
    refine E.br (fun k1 k2 => h.icmp_ge (tgt := 14) dX10_put_7 (by decide) k1 k2) ?_ ?_
    · exact hJ14 _
    · refine E.m (h.aload_n 0 dX10_put_10 rfl) ?_
      refine E.m (h.iload_n 1 dX10_put_11 rfl) ?_
      refine E.m (h.iload_n 2 dX10_put_12 rfl) ?_
      refine E.gi (fun hi k => h.iast h1 hi dX10_put_13 k) ?_
      refine E.nmM (fun M2 => ?_)
      exact hJ14 _
def f_X0_take (t : Nat) (x1_ : Int32) (x2_ : Int32) (x3_ : Int32) (M : Mem) : Option (Unit × Mem) :=
  bd (f_X10_by (M.1 t 0) x3_ M) (fun u1 M2 => bd (f_X10_mod x1_ (64 : Int32) M2) (fun u3 M4 => bd (f_X10_mod (u3 - u1) (64 : Int32) M4) (fun u5 M6 => jn1 (fun M7 => some ((), M7)) (fun J141 => if u5 < (32 : Int32) then (if u5 ≤ (15 : Int32) then (bd (f_X10_put (t + 1) 64 u3 (u1 + u5) M6) (fun _ M9 => bd (f_X10_put (t + 2) 64 u3 x1_ M9) (fun _ M11 => if (u1 + u5) ≤ (M11.1 t 7) then (J141 M11) else (bd (f_X10_mod (x2_ - (M11.1 t 8)) (256 : Int32) M11) (fun u12 M13 => nm (wi M13 t 3 ((M11.1 t 3) + u12)) (fun M14 => nm (wi M14 t 7 (u1 + u5)) (fun M15 => nm (wi M15 t 8 x2_) (fun M16 => J141 M16)))))))) else (nm (wi M6 t 2 ((M6.1 t 2) + (1 : Int32))) (fun M17 => J141 M17))) else (nm (wi M6 t 1 ((M6.1 t 1) + (1 : Int32))) (fun M18 => J141 M18))))))
set_option maxRecDepth 20000 in
theorem c_X0_take {G : Ctx} (hW : WFG G) {t : Nat} {x1_ : Int32} {x2_ : Int32} {x3_ : Int32} {M M' : Mem} (h0 : hs G t (0, 0)) (hf : f_X0_take t x1_ x2_ x3_ M = some ((), M')) : Ct G yX0_take cX0_take 7 none 2 43 [.ref t, .int x1_, .int x2_, .int x3_] M none M' := by
  refine ct_v hW (by decide +kernel) (Nat.le_of_ble_eq_true rfl) (fun w h hr => ?_)
  have h : Rb G cX0_take RX0 7 2 43 w := h
  refine (?_ : E (fun q => q = ((), M')) (f_X0_take t x1_ x2_ x3_ M) (w M 0 [(0, .ref t), (1, .int x1_), (2, .int x2_), (3, .int x3_)] [])) _ hf rfl
  unfold f_X0_take
  refine E.m (h.aload_n 0 dX0_take_0 rfl) ?_
  refine E.m (h.get h0 lf_RX0_18 dX0_take_1 fv_0_0) ?_
  refine E.m (h.iload_n 3 dX0_take_4 rfl) ?_
  refine E.bnd (fun u1 M2 => w M2 8 [(0, .ref t), (1, .int x1_), (2, .int x2_), (3, .int x3_)] [.int u1]) (fun u1 M2 hf k => h.callSN (As := [.int (M.1 t 0), .int x3_]) (rest := []) (c_X10_by hW hf) lm_X10_by ls_m_X10_by 22 rfl rfl rfl (Nat.le_of_ble_eq_true rfl) (by decide) dX0_take_5 rfl k) (fun u1 M2 => ?_)
  refine E.m (h.istore dX0_take_8 (by decide) rfl) ?_
  refine E.m (h.iload_n 2 dX0_take_10 rfl) ?_
  refine E.m (h.bipush (v := (64 : Int32)) dX0_take_11 (by decide)) ?_
  refine E.bnd (fun u3 M4 => w M4 16 [(4, .int u1), (0, .ref t), (1, .int x1_), (2, .int x2_), (3, .int x3_)] [.int u3]) (fun u3 M4 hf k => h.callSN (As := [.int x1_, .int (64 : Int32)]) (rest := []) (c_X10_mod hW hf) lm_X10_mod ls_m_X10_mod 21 rfl rfl rfl (Nat.le_of_ble_eq_true rfl) (by decide) dX0_take_13 rfl k) (fun u3 M4 => ?_)
  refine E.m (h.istore dX0_take_16 (by decide) rfl) ?_
  refine E.m (h.iload 0 dX0_take_18 rfl) ?_
  refine E.m (h.iload 1 dX0_take_20 rfl) ?_
  refine E.m (h.isub dX0_take_22) ?_
  refine E.m (h.bipush (v := (64 : Int32)) dX0_take_23 (by decide)) ?_
  refine E.bnd (fun u5 M6 => w M6 28 [(5, .int u3), (4, .int u1), (0, .ref t), (1, .int x1_), (2, .int x2_), (3, .int x3_)] [.int u5]) (fun u5 M6 hf k => h.callSN (As := [.int (u3 - u1), .int (64 : Int32)]) (rest := []) (c_X10_mod hW hf) lm_X10_mod ls_m_X10_mod 21 rfl rfl rfl (Nat.le_of_ble_eq_true rfl) (by decide) dX0_take_25 rfl k) (fun u5 M6 => ?_)
  refine E.m (h.istore dX0_take_28 (by decide) rfl) ?_
  refine E.m (h.iload 0 dX0_take_30 rfl) ?_
  refine E.m (h.bipush (v := (32 : Int32)) dX0_take_32 (by decide)) ?_
  refine E.join1 (fun M7 => w M7 141 [(0, .ref t), (1, .int x1_), (2, .int x2_), (3, .int x3_), (4, .int u1), (5, .int u3), (6, .int u5)] []) (fun M7 => ?_) (fun J141 hJ141 => ?_)
  · exact E.some (ret_v hr dX0_take_141)
  refine E.br (fun k1 k2 => h.icmp_lt (tgt := 50) dX0_take_34 (by decide) k1 k2) ?_ ?_
  · refine E.m (h.iload 0 dX0_take_50 rfl) ?_
    refine E.m (h.bipush (v := (15 : Int32)) dX0_take_52 (by decide)) ?_
    refine E.br (fun k1 k2 => h.icmp_le (tgt := 70) dX0_take_54 (by decide) k1 k2) ?_ ?_
    · refine E.m (h.aload_n 3 dX0_take_70 rfl) ?_
      refine E.m (h.get h0 lf_RX0_9 dX0_take_71 fv_0_9) ?_
      refine E.m (h.iload 1 dX0_take_74 rfl) ?_
      refine E.m (h.iload 2 dX0_take_76 rfl) ?_
      refine E.m (h.iload 0 dX0_take_78 rfl) ?_
      refine E.m (h.iadd dX0_take_80) ?_
      refine E.bnd (fun _ M9 => w M9 84 [(6, .int u5), (5, .int u3), (4, .int u1), (0, .ref t), (1, .int x1_), (2, .int x2_), (3, .int x3_)] []) (fun _ M9 hf k => h.callSN (As := [.ref (t + 1), .int u3, .int (u1 + u5)]) (rest := []) (c_X10_put hW (hW.clo 0 h0 rfl) hf) lm_X10_put ls_m_X10_put 23 rfl rfl rfl (Nat.le_of_ble_eq_true rfl) (by decide) dX0_take_81 rfl k) (fun _ M9 => ?_)
      refine E.m (h.aload_n 3 dX0_take_84 rfl) ?_
      refine E.m (h.get h0 lf_RX0_15 dX0_take_85 fv_0_10) ?_
      refine E.m (h.iload 1 dX0_take_88 rfl) ?_
      refine E.m (h.iload_n 4 dX0_take_90 rfl) ?_
      refine E.bnd (fun _ M11 => w M11 94 [(6, .int u5), (5, .int u3), (4, .int u1), (0, .ref t), (1, .int x1_), (2, .int x2_), (3, .int x3_)] []) (fun _ M11 hf k => h.callSN (As := [.ref (t + 2), .int u3, .int x1_]) (rest := []) (c_X10_put hW (hW.clo 1 h0 rfl) hf) lm_X10_put ls_m_X10_put 23 rfl rfl rfl (Nat.le_of_ble_eq_true rfl) (by decide) dX0_take_91 rfl k) (fun _ M11 => ?_)
      refine E.m (h.iload 2 dX0_take_94 rfl) ?_
      refine E.m (h.iload 0 dX0_take_96 rfl) ?_
      refine E.m (h.iadd dX0_take_98) ?_
      refine E.m (h.aload_n 3 dX0_take_99 rfl) ?_
      refine E.m (h.get h0 lf_RX0_46 dX0_take_100 fv_0_7) ?_
      refine E.br (fun k1 k2 => h.icmp_le (tgt := 141) dX0_take_103 (by decide) k1 k2) ?_ ?_
      · refine E.m (h.sub [3, 4, 5, 6, 2, 1, 0] rfl) ?_
        exact hJ141 _
      · refine E.m (h.aload_n 3 dX0_take_106 rfl) ?_
        refine E.m (h.dup dX0_take_107 rfl) ?_
        refine E.m (h.get h0 lf_RX0_28 dX0_take_108 fv_0_3) ?_
        refine E.m (h.iload_n 5 dX0_take_111 rfl) ?_
        refine E.m (h.aload_n 3 dX0_take_112 rfl) ?_
        refine E.m (h.get h0 lf_RX0_40 dX0_take_113 fv_0_8) ?_
        refine E.m (h.isub dX0_take_116) ?_
        refine E.m (h.sipush (v := (256 : Int32)) dX0_take_117 (by decide)) ?_
        refine E.bnd (fun u12 M13 => w M13 123 [(6, .int u5), (5, .int u3), (4, .int u1), (0, .ref t), (1, .int x1_), (2, .int x2_), (3, .int x3_)] [.int u12, .int (M11.1 t 3), .ref t]) (fun u12 M13 hf k => h.callSN (As := [.int (x2_ - (M11.1 t 8)), .int (256 : Int32)]) (rest := [.int (M11.1 t 3), .ref t]) (c_X10_mod hW hf) lm_X10_mod ls_m_X10_mod 21 rfl rfl rfl (Nat.le_of_ble_eq_true rfl) (by decide) dX0_take_120 rfl k) (fun u12 M13 => ?_)
        refine E.m (h.iadd dX0_take_123) ?_
        refine E.m (h.puti h0 lp_RX0_28 rfl dX0_take_124) ?_
        refine E.nmM (fun M14 => ?_)
        refine E.m (h.aload_n 3 dX0_take_127 rfl) ?_
        refine E.m (h.iload 2 dX0_take_128 rfl) ?_
        refine E.m (h.iload 0 dX0_take_130 rfl) ?_
        refine E.m (h.iadd dX0_take_132) ?_
        refine E.m (h.puti h0 lp_RX0_46 rfl dX0_take_133) ?_
        refine E.nmM (fun M15 => ?_)
        refine E.m (h.aload_n 3 dX0_take_136 rfl) ?_
        refine E.m (h.iload_n 5 dX0_take_137 rfl) ?_
        refine E.m (h.puti h0 lp_RX0_40 rfl dX0_take_138) ?_
        refine E.nmM (fun M16 => ?_)
        refine E.m (h.sub [3, 4, 5, 6, 2, 1, 0] rfl) ?_
        exact hJ141 _
    · refine E.m (h.aload_n 3 dX0_take_57 rfl) ?_
      refine E.m (h.dup dX0_take_58 rfl) ?_
      refine E.m (h.get h0 lf_RX0_25 dX0_take_59 fv_0_2) ?_
      refine E.m (h.iconst (v := (1 : Int32)) dX0_take_62 (by decide)) ?_
      refine E.m (h.iadd dX0_take_63) ?_
      refine E.m (h.puti h0 lp_RX0_25 rfl dX0_take_64) ?_
      refine E.nmM (fun M17 => ?_)
      refine E.m (h.goto (tgt := 141) dX0_take_67 (by decide)) ?_
      refine E.m (h.sub [3, 4, 5, 6, 2, 1, 0] rfl) ?_
      exact hJ141 _
  · refine E.m (h.aload_n 3 dX0_take_37 rfl) ?_
    refine E.m (h.dup dX0_take_38 rfl) ?_
    refine E.m (h.get h0 lf_RX0_22 dX0_take_39 fv_0_1) ?_
    refine E.m (h.iconst (v := (1 : Int32)) dX0_take_42 (by decide)) ?_
    refine E.m (h.iadd dX0_take_43) ?_
    refine E.m (h.puti h0 lp_RX0_22 rfl dX0_take_44) ?_
    refine E.nmM (fun M18 => ?_)
    refine E.m (h.goto (tgt := 141) dX0_take_47 (by decide)) ?_
    refine E.m (h.sub [3, 4, 5, 6, 2, 1, 0] rfl) ?_
    exact hJ141 _
def f_X0_spread (t : Nat) (M : Mem) : Option (Int32 × Mem) :=
  some ((M.1 t 7) - (M.1 t 6), M)
set_option maxRecDepth 20000 in
theorem c_X0_spread {G : Ctx} (hW : WFG G) {t : Nat} {M M' : Mem} {r : Int32} (h0 : hs G t (0, 0)) (hf : f_X0_spread t M = some (r, M')) : Ct G yX0_spread cX0_spread 1 (some .int) 0 0 [.ref t] M (some (.int r)) M' := by
  refine ct_i hW (by decide +kernel) (Nat.le_of_ble_eq_true rfl) (fun w h hr => ?_)
  have h : Rb G cX0_spread RX0 1 0 0 w := h
  refine (?_ : E (fun q => q = (r, M')) (f_X0_spread t M) (w M 0 [(0, .ref t)] [])) _ hf rfl
  unfold f_X0_spread
  refine E.m (h.aload_n 0 dX0_spread_0 rfl) ?_
  refine E.m (h.get h0 lf_RX0_46 dX0_spread_1 fv_0_7) ?_
  refine E.m (h.aload_n 0 dX0_spread_4 rfl) ?_
  refine E.m (h.get h0 lf_RX0_37 dX0_spread_5 fv_0_6) ?_
  refine E.m (h.isub dX0_spread_8) ?_
  exact E.some (ret_i hr rfl dX0_spread_9)
def f_J9_max_7cf53 (x1_ : Int32) (x2_ : Int32) (M : Mem) : Option (Int32 × Mem) :=
  jn1 (fun z1 => some (z1, M)) (fun J10 => if x1_ < x2_ then (J10 x2_) else (J10 x1_))
set_option maxRecDepth 20000 in
theorem c_J9_max_7cf53 {G : Ctx} (hW : WFG G) {x1_ : Int32} {x2_ : Int32} {M M' : Mem} {r : Int32} (hf : f_J9_max_7cf53 x1_ x2_ M = some (r, M')) : Ct G yJ9_max_7cf53 cJ9_max_7cf53 2 (some .int) 0 0 [.int x1_, .int x2_] M (some (.int r)) M' := by
  refine ct_i hW (by decide +kernel) (Nat.le_of_ble_eq_true rfl) (fun w h hr => ?_)
  have h : Rb G cJ9_max_7cf53 RJ9 2 0 0 w := h
  refine (?_ : E (fun q => q = (r, M')) (f_J9_max_7cf53 x1_ x2_ M) (w M 0 [(0, .int x1_), (1, .int x2_)] [])) _ hf rfl
  unfold f_J9_max_7cf53
  refine E.m (h.iload_n 0 dJ9_max_7cf53_0 rfl) ?_
  refine E.m (h.iload_n 1 dJ9_max_7cf53_1 rfl) ?_
  refine E.join1 (fun z1 => w M 10 [(0, .int x1_), (1, .int x2_)] [.int z1]) (fun z1 => ?_) (fun J10 hJ10 => ?_)
  · exact E.some (ret_i hr rfl dJ9_max_7cf53_10)
  refine E.br (fun k1 k2 => h.icmp_lt (tgt := 9) dJ9_max_7cf53_2 (by decide) k1 k2) ?_ ?_
  · refine E.m (h.iload_n 1 dJ9_max_7cf53_9 rfl) ?_
    exact hJ10 _
  · refine E.m (h.iload_n 0 dJ9_max_7cf53_5 rfl) ?_
    refine E.m (h.goto (tgt := 10) dJ9_max_7cf53_6 (by decide)) ?_
    exact hJ10 _
def f_X0_level (t : Nat) (x1_ : Int32) (M : Mem) : Option (Int32 × Mem) :=
  bd (f_J9_max_7cf53 (0 : Int32) ((((M.1 t 7) + (1 : Int32)) * x1_) - (M.1 t 0)) M) (fun u1 M2 => some (u1, M2))
set_option maxRecDepth 20000 in
theorem c_X0_level {G : Ctx} (hW : WFG G) {t : Nat} {x1_ : Int32} {M M' : Mem} {r : Int32} (h0 : hs G t (0, 0)) (hf : f_X0_level t x1_ M = some (r, M')) : Ct G yX0_level cX0_level 2 (some .int) 1 21 [.ref t, .int x1_] M (some (.int r)) M' := by
  refine ct_i hW (by decide +kernel) (Nat.le_of_ble_eq_true rfl) (fun w h hr => ?_)
  have h : Rb G cX0_level RX0 2 1 21 w := h
  refine (?_ : E (fun q => q = (r, M')) (f_X0_level t x1_ M) (w M 0 [(0, .ref t), (1, .int x1_)] [])) _ hf rfl
  unfold f_X0_level
  refine E.m (h.iconst (v := (0 : Int32)) dX0_level_0 (by decide)) ?_
  refine E.m (h.aload_n 0 dX0_level_1 rfl) ?_
  refine E.m (h.get h0 lf_RX0_46 dX0_level_2 fv_0_7) ?_
  refine E.m (h.iconst (v := (1 : Int32)) dX0_level_5 (by decide)) ?_
  refine E.m (h.iadd dX0_level_6) ?_
  refine E.m (h.iload_n 1 dX0_level_7 rfl) ?_
  refine E.m (h.imul dX0_level_8) ?_
  refine E.m (h.aload_n 0 dX0_level_9 rfl) ?_
  refine E.m (h.get h0 lf_RX0_18 dX0_level_10 fv_0_0) ?_
  refine E.m (h.isub dX0_level_13) ?_
  refine E.bnd (fun u1 M2 => w M2 17 [(0, .ref t), (1, .int x1_)] [.int u1]) (fun u1 M2 hf k => h.callS (As := [.int (0 : Int32), .int ((((M.1 t 7) + (1 : Int32)) * x1_) - (M.1 t 0))]) (rest := []) (c_J9_max_7cf53 hW hf) lm_J9_max_7cf53 ls_m_J9_max_7cf53 ll_RX0_70 rfl rfl (Nat.le_of_ble_eq_true rfl) (by decide) dX0_level_14 rfl k) (fun u1 M2 => ?_)
  exact E.some (ret_i hr rfl dX0_level_17)
def f_X10_at (r1_ : Nat) (n1_ : Nat) (x2_ : Int32) (M : Mem) : Option (Int32 × Mem) :=
  jn1 (fun z1 => some (z1, M)) (fun J17 => jn0 (fun _ => J17 (0 : Int32)) (fun J16 => if x2_ < 0 then (J16 ()) else (if (Int32.ofNat n1_) ≤ x2_ then (J16 ()) else (gdi x2_ n1_ (J17 (M.1 r1_ x2_.toNatClampNeg))))))
set_option maxRecDepth 20000 in
theorem c_X10_at {G : Ctx} (hW : WFG G) {r1_ : Nat} {n1_ : Nat} {x2_ : Int32} {M M' : Mem} {r : Int32} (h1 : hs G r1_ (1, n1_)) (hf : f_X10_at r1_ n1_ x2_ M = some (r, M')) : Ct G yX10_at cX10_at 2 (some .int) 0 0 [.ref r1_, .int x2_] M (some (.int r)) M' := by
  refine ct_i hW (by decide +kernel) (Nat.le_of_ble_eq_true rfl) (fun w h hr => ?_)
  have h : Rb G cX10_at RX10 2 0 0 w := h
  refine (?_ : E (fun q => q = (r, M')) (f_X10_at r1_ n1_ x2_ M) (w M 0 [(0, .ref r1_), (1, .int x2_)] [])) _ hf rfl
  unfold f_X10_at
  refine E.m (h.iload_n 1 dX10_at_0 rfl) ?_
  refine E.join1 (fun z1 => w M 17 [(0, .ref r1_), (1, .int x2_)] [.int z1]) (fun z1 => ?_) (fun J17 hJ17 => ?_)
  · exact E.some (ret_i hr rfl dX10_at_17)
  refine E.join0 (fun _ => w M 16 [(0, .ref r1_), (1, .int x2_)] []) (fun _ => ?_) (fun J16 hJ16 => ?_)
  · refine E.m (h.iconst (v := (0 : Int32)) dX10_at_16 (by decide)) ?_
    exact hJ17 _
  refine E.br (fun k1 k2 => h.if_lt (tgt := 16) dX10_at_1 (by decide) k1 k2) ?_ ?_
  · exact hJ16 ()
  · refine E.m (h.iload_n 1 dX10_at_4 rfl) ?_
    refine E.m (h.aload_n 0 dX10_at_5 rfl) ?_
    refine E.m (h.alen (v := Int32.ofNat n1_) h1 rfl dX10_at_6) ?_
    refine E.br (fun k1 k2 => h.icmp_ge (tgt := 16) dX10_at_7 (by decide) k1 k2) ?_ ?_
    · exact hJ16 ()
    · refine E.m (h.aload_n 0 dX10_at_10 rfl) ?_
      refine E.m (h.iload_n 1 dX10_at_11 rfl) ?_
      refine E.gi (fun hi k => h.iald h1 hi dX10_at_12 k) ?_
      refine E.m (h.goto (tgt := 17) dX10_at_13 (by decide)) ?_
      exact hJ17 _
def f_X0_waiting (t : Nat) (x1_ : Int32) (x2_ : Int32) (M : Mem) : Option (Int32 × Mem) :=
  bd (f_X10_at (t + 1) 64 x1_ M) (fun u1 M2 => jn2 (fun z3 M4 => some (z3, M4)) (fun J38 => jn1 (fun M5 => J38 (-1 : Int32) M5) (fun J37 => if u1 = (-1 : Int32) then (J37 M2) else (bd (f_X10_by (M2.1 t 0) x2_ M2) (fun u6 M7 => if u1 < u6 then (J37 M7) else (bd (f_X10_at (t + 2) 64 x1_ M7) (fun u8 M9 => J38 u8 M9)))))))
set_option maxRecDepth 20000 in
theorem c_X0_waiting {G : Ctx} (hW : WFG G) {t : Nat} {x1_ : Int32} {x2_ : Int32} {M M' : Mem} {r : Int32} (h0 : hs G t (0, 0)) (hf : f_X0_waiting t x1_ x2_ M = some (r, M')) : Ct G yX0_waiting cX0_waiting 4 (some .int) 1 21 [.ref t, .int x1_, .int x2_] M (some (.int r)) M' := by
  refine ct_i hW (by decide +kernel) (Nat.le_of_ble_eq_true rfl) (fun w h hr => ?_)
  have h : Rb G cX0_waiting RX0 4 1 21 w := h
  refine (?_ : E (fun q => q = (r, M')) (f_X0_waiting t x1_ x2_ M) (w M 0 [(0, .ref t), (1, .int x1_), (2, .int x2_)] [])) _ hf rfl
  unfold f_X0_waiting
  refine E.m (h.aload_n 0 dX0_waiting_0 rfl) ?_
  refine E.m (h.get h0 lf_RX0_9 dX0_waiting_1 fv_0_9) ?_
  refine E.m (h.iload_n 1 dX0_waiting_4 rfl) ?_
  refine E.bnd (fun u1 M2 => w M2 8 [(0, .ref t), (1, .int x1_), (2, .int x2_)] [.int u1]) (fun u1 M2 hf k => h.callSN (As := [.ref (t + 1), .int x1_]) (rest := []) (c_X10_at hW (hW.clo 0 h0 rfl) hf) lm_X10_at ls_m_X10_at 28 rfl rfl rfl (Nat.le_of_ble_eq_true rfl) (by decide) dX0_waiting_5 rfl k) (fun u1 M2 => ?_)
  refine E.m (h.istore_n dX0_waiting_8 (by decide) rfl) ?_
  refine E.m (h.iload_n 0 dX0_waiting_9 rfl) ?_
  refine E.m (h.iconst (v := (-1 : Int32)) dX0_waiting_10 (by decide)) ?_
  refine E.join2 (fun z3 M4 => w M4 38 [(0, .ref t), (1, .int x1_), (2, .int x2_), (3, .int u1)] [.int z3]) (fun z3 M4 => ?_) (fun J38 hJ38 => ?_)
  · exact E.some (ret_i hr rfl dX0_waiting_38)
  refine E.join1 (fun M5 => w M5 37 [(0, .ref t), (1, .int x1_), (2, .int x2_), (3, .int u1)] []) (fun M5 => ?_) (fun J37 hJ37 => ?_)
  · refine E.m (h.iconst (v := (-1 : Int32)) dX0_waiting_37 (by decide)) ?_
    exact hJ38 _ _
  refine E.br (fun k1 k2 => h.icmp_eq (tgt := 37) dX0_waiting_11 (by decide) k1 k2) ?_ ?_
  · refine E.m (h.sub [1, 2, 3, 0] rfl) ?_
    exact hJ37 _
  · refine E.m (h.iload_n 0 dX0_waiting_14 rfl) ?_
    refine E.m (h.aload_n 1 dX0_waiting_15 rfl) ?_
    refine E.m (h.get h0 lf_RX0_18 dX0_waiting_16 fv_0_0) ?_
    refine E.m (h.iload_n 3 dX0_waiting_19 rfl) ?_
    refine E.bnd (fun u6 M7 => w M7 23 [(3, .int u1), (0, .ref t), (1, .int x1_), (2, .int x2_)] [.int u6, .int u1]) (fun u6 M7 hf k => h.callSN (As := [.int (M2.1 t 0), .int x2_]) (rest := [.int u1]) (c_X10_by hW hf) lm_X10_by ls_m_X10_by 22 rfl rfl rfl (Nat.le_of_ble_eq_true rfl) (by decide) dX0_waiting_20 rfl k) (fun u6 M7 => ?_)
    refine E.br (fun k1 k2 => h.icmp_lt (tgt := 37) dX0_waiting_23 (by decide) k1 k2) ?_ ?_
    · refine E.m (h.sub [1, 2, 3, 0] rfl) ?_
      exact hJ37 _
    · refine E.m (h.aload_n 1 dX0_waiting_26 rfl) ?_
      refine E.m (h.get h0 lf_RX0_15 dX0_waiting_27 fv_0_10) ?_
      refine E.m (h.iload_n 2 dX0_waiting_30 rfl) ?_
      refine E.bnd (fun u8 M9 => w M9 34 [(3, .int u1), (0, .ref t), (1, .int x1_), (2, .int x2_)] [.int u8]) (fun u8 M9 hf k => h.callSN (As := [.ref (t + 2), .int x1_]) (rest := []) (c_X10_at hW (hW.clo 1 h0 rfl) hf) lm_X10_at ls_m_X10_at 28 rfl rfl rfl (Nat.le_of_ble_eq_true rfl) (by decide) dX0_waiting_31 rfl k) (fun u8 M9 => ?_)
      refine E.m (h.goto (tgt := 38) dX0_waiting_34 (by decide)) ?_
      refine E.m (h.sub [1, 2, 3, 0] rfl) ?_
      exact hJ38 _ _
def f_X0_indexHere (t : Nat) (x1_ : Int32) (M : Mem) : Option (Int32 × Mem) :=
  bd (f_X10_by (M.1 t 0) x1_ M) (fun u1 M2 => bd (f_X10_mod u1 (64 : Int32) M2) (fun u3 M4 => bd (f_X10_at (t + 1) 64 u3 M4) (fun u5 M6 => jn2 (fun z7 M8 => some (z7, M8)) (fun J51 => if u5 = u1 then (bd (f_X10_at (t + 2) 64 u3 M6) (fun u9 M10 => bd (f_X10_mod (M10.1 t 0) x1_ M10) (fun u11 M12 => J51 ((u9 * x1_) + u11) M12))) else (J51 (-1 : Int32) M6)))))
set_option maxRecDepth 20000 in
theorem c_X0_indexHere {G : Ctx} (hW : WFG G) {t : Nat} {x1_ : Int32} {M M' : Mem} {r : Int32} (h0 : hs G t (0, 0)) (hf : f_X0_indexHere t x1_ M = some (r, M')) : Ct G yX0_indexHere cX0_indexHere 4 (some .int) 2 43 [.ref t, .int x1_] M (some (.int r)) M' := by
  refine ct_i hW (by decide +kernel) (Nat.le_of_ble_eq_true rfl) (fun w h hr => ?_)
  have h : Rb G cX0_indexHere RX0 4 2 43 w := h
  refine (?_ : E (fun q => q = (r, M')) (f_X0_indexHere t x1_ M) (w M 0 [(0, .ref t), (1, .int x1_)] [])) _ hf rfl
  unfold f_X0_indexHere
  refine E.m (h.aload_n 0 dX0_indexHere_0 rfl) ?_
  refine E.m (h.get h0 lf_RX0_18 dX0_indexHere_1 fv_0_0) ?_
  refine E.m (h.iload_n 1 dX0_indexHere_4 rfl) ?_
  refine E.bnd (fun u1 M2 => w M2 8 [(0, .ref t), (1, .int x1_)] [.int u1]) (fun u1 M2 hf k => h.callSN (As := [.int (M.1 t 0), .int x1_]) (rest := []) (c_X10_by hW hf) lm_X10_by ls_m_X10_by 22 rfl rfl rfl (Nat.le_of_ble_eq_true rfl) (by decide) dX0_indexHere_5 rfl k) (fun u1 M2 => ?_)
  refine E.m (h.istore_n dX0_indexHere_8 (by decide) rfl) ?_
  refine E.m (h.iload_n 0 dX0_indexHere_9 rfl) ?_
  refine E.m (h.bipush (v := (64 : Int32)) dX0_indexHere_10 (by decide)) ?_
  refine E.bnd (fun u3 M4 => w M4 15 [(2, .int u1), (0, .ref t), (1, .int x1_)] [.int u3]) (fun u3 M4 hf k => h.callSN (As := [.int u1, .int (64 : Int32)]) (rest := []) (c_X10_mod hW hf) lm_X10_mod ls_m_X10_mod 21 rfl rfl rfl (Nat.le_of_ble_eq_true rfl) (by decide) dX0_indexHere_12 rfl k) (fun u3 M4 => ?_)
  refine E.m (h.istore_n dX0_indexHere_15 (by decide) rfl) ?_
  refine E.m (h.aload_n 2 dX0_indexHere_16 rfl) ?_
  refine E.m (h.get h0 lf_RX0_9 dX0_indexHere_17 fv_0_9) ?_
  refine E.m (h.iload_n 0 dX0_indexHere_20 rfl) ?_
  refine E.bnd (fun u5 M6 => w M6 24 [(3, .int u3), (2, .int u1), (0, .ref t), (1, .int x1_)] [.int u5]) (fun u5 M6 hf k => h.callSN (As := [.ref (t + 1), .int u3]) (rest := []) (c_X10_at hW (hW.clo 0 h0 rfl) hf) lm_X10_at ls_m_X10_at 28 rfl rfl rfl (Nat.le_of_ble_eq_true rfl) (by decide) dX0_indexHere_21 rfl k) (fun u5 M6 => ?_)
  refine E.m (h.iload_n 1 dX0_indexHere_24 rfl) ?_
  refine E.join2 (fun z7 M8 => w M8 51 [(0, .ref t), (1, .int x1_), (2, .int u1), (3, .int u3)] [.int z7]) (fun z7 M8 => ?_) (fun J51 hJ51 => ?_)
  · exact E.some (ret_i hr rfl dX0_indexHere_51)
  refine E.br (fun k1 k2 => h.icmp_ne (tgt := 50) dX0_indexHere_25 (by decide) k2 k1) ?_ ?_
  · refine E.m (h.aload_n 2 dX0_indexHere_28 rfl) ?_
    refine E.m (h.get h0 lf_RX0_15 dX0_indexHere_29 fv_0_10) ?_
    refine E.m (h.iload_n 0 dX0_indexHere_32 rfl) ?_
    refine E.bnd (fun u9 M10 => w M10 36 [(3, .int u3), (2, .int u1), (0, .ref t), (1, .int x1_)] [.int u9]) (fun u9 M10 hf k => h.callSN (As := [.ref (t + 2), .int u3]) (rest := []) (c_X10_at hW (hW.clo 1 h0 rfl) hf) lm_X10_at ls_m_X10_at 28 rfl rfl rfl (Nat.le_of_ble_eq_true rfl) (by decide) dX0_indexHere_33 rfl k) (fun u9 M10 => ?_)
    refine E.m (h.iload_n 3 dX0_indexHere_36 rfl) ?_
    refine E.m (h.imul dX0_indexHere_37) ?_
    refine E.m (h.aload_n 2 dX0_indexHere_38 rfl) ?_
    refine E.m (h.get h0 lf_RX0_18 dX0_indexHere_39 fv_0_0) ?_
    refine E.m (h.iload_n 3 dX0_indexHere_42 rfl) ?_
    refine E.bnd (fun u11 M12 => w M12 46 [(3, .int u3), (2, .int u1), (0, .ref t), (1, .int x1_)] [.int u11, .int (u9 * x1_)]) (fun u11 M12 hf k => h.callSN (As := [.int (M10.1 t 0), .int x1_]) (rest := [.int (u9 * x1_)]) (c_X10_mod hW hf) lm_X10_mod ls_m_X10_mod 21 rfl rfl rfl (Nat.le_of_ble_eq_true rfl) (by decide) dX0_indexHere_43 rfl k) (fun u11 M12 => ?_)
    refine E.m (h.iadd dX0_indexHere_46) ?_
    refine E.m (h.goto (tgt := 51) dX0_indexHere_47 (by decide)) ?_
    refine E.m (h.sub [2, 3, 1, 0] rfl) ?_
    exact hJ51 _ _
  · refine E.m (h.iconst (v := (-1 : Int32)) dX0_indexHere_50 (by decide)) ?_
    refine E.m (h.sub [2, 3, 1, 0] rfl) ?_
    exact hJ51 _ _
def f_X0_indexDue (t : Nat) (x1_ : Int32) (M : Mem) : Option (Int32 × Mem) :=
  some ((((M.1 t 4) * x1_) + (M.1 t 0)) - (M.1 t 5), M)
set_option maxRecDepth 20000 in
theorem c_X0_indexDue {G : Ctx} (hW : WFG G) {t : Nat} {x1_ : Int32} {M M' : Mem} {r : Int32} (h0 : hs G t (0, 0)) (hf : f_X0_indexDue t x1_ M = some (r, M')) : Ct G yX0_indexDue cX0_indexDue 2 (some .int) 0 0 [.ref t, .int x1_] M (some (.int r)) M' := by
  refine ct_i hW (by decide +kernel) (Nat.le_of_ble_eq_true rfl) (fun w h hr => ?_)
  have h : Rb G cX0_indexDue RX0 2 0 0 w := h
  refine (?_ : E (fun q => q = (r, M')) (f_X0_indexDue t x1_ M) (w M 0 [(0, .ref t), (1, .int x1_)] [])) _ hf rfl
  unfold f_X0_indexDue
  refine E.m (h.aload_n 0 dX0_indexDue_0 rfl) ?_
  refine E.m (h.get h0 lf_RX0_31 dX0_indexDue_1 fv_0_4) ?_
  refine E.m (h.iload_n 1 dX0_indexDue_4 rfl) ?_
  refine E.m (h.imul dX0_indexDue_5) ?_
  refine E.m (h.aload_n 0 dX0_indexDue_6 rfl) ?_
  refine E.m (h.get h0 lf_RX0_18 dX0_indexDue_7 fv_0_0) ?_
  refine E.m (h.iadd dX0_indexDue_10) ?_
  refine E.m (h.aload_n 0 dX0_indexDue_11 rfl) ?_
  refine E.m (h.get h0 lf_RX0_34 dX0_indexDue_12 fv_0_5) ?_
  refine E.m (h.isub dX0_indexDue_15) ?_
  exact E.some (ret_i hr rfl dX0_indexDue_16)
def f_X1_begin (t : Nat) (r1_ : Nat) (M : Mem) : Option (Unit × Mem) :=
  nm (wi M t 0 (M.1 r1_ 5)) (fun M1 => nm (wi M1 t 1 (0 : Int32)) (fun M2 => nm (wi M2 t 2 (0 : Int32)) (fun M3 => nm (wi M3 t 3 (0 : Int32)) (fun M4 => nm (wi M4 t 4 (0 : Int32)) (fun M5 => nm (wi M5 t 5 (0 : Int32)) (fun M6 => nm (wi M6 t 6 (0 : Int32)) (fun M7 => nm (wi M7 t 7 (0 : Int32)) (fun M8 => nm (wi M8 t 8 (0 : Int32)) (fun M9 => nm (wi M9 t 12 (0 : Int32)) (fun M10 => nm (wi M10 t 13 (0 : Int32)) (fun M11 => some ((), M11))))))))))))
set_option maxRecDepth 20000 in
theorem c_X1_begin {G : Ctx} (hW : WFG G) {t : Nat} {r1_ : Nat} {M M' : Mem} (h0 : hs G t (0, 1)) (h1 : hs G r1_ (0, 3)) (hf : f_X1_begin t r1_ M = some ((), M')) : Ct G yX1_begin cX1_begin 2 none 0 0 [.ref t, .ref r1_] M none M' := by
  refine ct_v hW (by decide +kernel) (Nat.le_of_ble_eq_true rfl) (fun w h hr => ?_)
  have h : Rb G cX1_begin RX1 2 0 0 w := h
  refine (?_ : E (fun q => q = ((), M')) (f_X1_begin t r1_ M) (w M 0 [(0, .ref t), (1, .ref r1_)] [])) _ hf rfl
  unfold f_X1_begin
  refine E.m (h.aload_n 0 dX1_begin_0 rfl) ?_
  refine E.m (h.aload_n 1 dX1_begin_1 rfl) ?_
  refine E.m (h.get h1 lf_RX1_21 dX1_begin_2 fv_3_5) ?_
  refine E.m (h.puti h0 lp_RX1_27 rfl dX1_begin_5) ?_
  refine E.nmM (fun M1 => ?_)
  refine E.m (h.aload_n 0 dX1_begin_8 rfl) ?_
  refine E.m (h.iconst (v := (0 : Int32)) dX1_begin_9 (by decide)) ?_
  refine E.m (h.puti h0 lp_RX1_28 rfl dX1_begin_10) ?_
  refine E.nmM (fun M2 => ?_)
  refine E.m (h.aload_n 0 dX1_begin_13 rfl) ?_
  refine E.m (h.iconst (v := (0 : Int32)) dX1_begin_14 (by decide)) ?_
  refine E.m (h.puti h0 lp_RX1_31 rfl dX1_begin_15) ?_
  refine E.nmM (fun M3 => ?_)
  refine E.m (h.aload_n 0 dX1_begin_18 rfl) ?_
  refine E.m (h.iconst (v := (0 : Int32)) dX1_begin_19 (by decide)) ?_
  refine E.m (h.puti h0 lp_RX1_34 rfl dX1_begin_20) ?_
  refine E.nmM (fun M4 => ?_)
  refine E.m (h.aload_n 0 dX1_begin_23 rfl) ?_
  refine E.m (h.iconst (v := (0 : Int32)) dX1_begin_24 (by decide)) ?_
  refine E.m (h.puti h0 lp_RX1_37 rfl dX1_begin_25) ?_
  refine E.nmM (fun M5 => ?_)
  refine E.m (h.aload_n 0 dX1_begin_28 rfl) ?_
  refine E.m (h.iconst (v := (0 : Int32)) dX1_begin_29 (by decide)) ?_
  refine E.m (h.puti h0 lp_RX1_40 rfl dX1_begin_30) ?_
  refine E.nmM (fun M6 => ?_)
  refine E.m (h.aload_n 0 dX1_begin_33 rfl) ?_
  refine E.m (h.iconst (v := (0 : Int32)) dX1_begin_34 (by decide)) ?_
  refine E.m (h.puti h0 lp_RX1_43 rfl dX1_begin_35) ?_
  refine E.nmM (fun M7 => ?_)
  refine E.m (h.aload_n 0 dX1_begin_38 rfl) ?_
  refine E.m (h.iconst (v := (0 : Int32)) dX1_begin_39 (by decide)) ?_
  refine E.m (h.puti h0 lp_RX1_46 rfl dX1_begin_40) ?_
  refine E.nmM (fun M8 => ?_)
  refine E.m (h.aload_n 0 dX1_begin_43 rfl) ?_
  refine E.m (h.iconst (v := (0 : Int32)) dX1_begin_44 (by decide)) ?_
  refine E.m (h.puti h0 lp_RX1_49 rfl dX1_begin_45) ?_
  refine E.nmM (fun M9 => ?_)
  refine E.m (h.aload_n 0 dX1_begin_48 rfl) ?_
  refine E.m (h.iconst (v := (0 : Int32)) dX1_begin_49 (by decide)) ?_
  refine E.m (h.puti h0 lp_RX1_52 rfl dX1_begin_50) ?_
  refine E.nmM (fun M10 => ?_)
  refine E.m (h.aload_n 0 dX1_begin_53 rfl) ?_
  refine E.m (h.iconst (v := (0 : Int32)) dX1_begin_54 (by decide)) ?_
  refine E.m (h.puti h0 lp_RX1_55 rfl dX1_begin_55) ?_
  refine E.nmM (fun M11 => ?_)
  exact E.some (ret_v hr dX1_begin_58)
def f_X1_copyFrom (t : Nat) (r1_ : Nat) (M : Mem) : Option (Unit × Mem) :=
  nm (wi M t 0 (M.1 r1_ 0)) (fun M1 => nm (wi M1 t 1 (M1.1 r1_ 1)) (fun M2 => nm (wi M2 t 2 (M2.1 r1_ 2)) (fun M3 => nm (wi M3 t 3 (M3.1 r1_ 3)) (fun M4 => nm (wi M4 t 4 (M4.1 r1_ 4)) (fun M5 => nm (wi M5 t 5 (M5.1 r1_ 5)) (fun M6 => nm (wi M6 t 6 (M6.1 r1_ 6)) (fun M7 => nm (wi M7 t 7 (M7.1 r1_ 7)) (fun M8 => nm (wi M8 t 8 (M8.1 r1_ 8)) (fun M9 => nm (wi M9 t 12 (M9.1 r1_ 12)) (fun M10 => nm (wi M10 t 13 (M10.1 r1_ 13)) (fun M11 => bd (f_X10_copyRow (r1_ + 1) 40 (t + 1) 40 M11) (fun _ M13 => bd (f_X10_copyRow (r1_ + 2) 40 (t + 2) 40 M13) (fun _ M15 => bd (f_X10_copyRow (r1_ + 3) 40 (t + 3) 40 M15) (fun _ M17 => some ((), M17)))))))))))))))
set_option maxRecDepth 20000 in
theorem c_X1_copyFrom {G : Ctx} (hW : WFG G) {t : Nat} {r1_ : Nat} {M M' : Mem} (h0 : hs G t (0, 1)) (h1 : hs G r1_ (0, 1)) (hf : f_X1_copyFrom t r1_ M = some ((), M')) : Ct G yX1_copyFrom cX1_copyFrom 2 none 2 85 [.ref t, .ref r1_] M none M' := by
  refine ct_v hW (by decide +kernel) (Nat.le_of_ble_eq_true rfl) (fun w h hr => ?_)
  have h : Rb G cX1_copyFrom RX1 2 2 85 w := h
  refine (?_ : E (fun q => q = ((), M')) (f_X1_copyFrom t r1_ M) (w M 0 [(0, .ref t), (1, .ref r1_)] [])) _ hf rfl
  unfold f_X1_copyFrom
  refine E.m (h.aload_n 0 dX1_copyFrom_0 rfl) ?_
  refine E.m (h.aload_n 1 dX1_copyFrom_1 rfl) ?_
  refine E.m (h.get h1 lf_RX1_27 dX1_copyFrom_2 fv_1_0) ?_
  refine E.m (h.puti h0 lp_RX1_27 rfl dX1_copyFrom_5) ?_
  refine E.nmM (fun M1 => ?_)
  refine E.m (h.aload_n 0 dX1_copyFrom_8 rfl) ?_
  refine E.m (h.aload_n 1 dX1_copyFrom_9 rfl) ?_
  refine E.m (h.get h1 lf_RX1_28 dX1_copyFrom_10 fv_1_1) ?_
  refine E.m (h.puti h0 lp_RX1_28 rfl dX1_copyFrom_13) ?_
  refine E.nmM (fun M2 => ?_)
  refine E.m (h.aload_n 0 dX1_copyFrom_16 rfl) ?_
  refine E.m (h.aload_n 1 dX1_copyFrom_17 rfl) ?_
  refine E.m (h.get h1 lf_RX1_31 dX1_copyFrom_18 fv_1_2) ?_
  refine E.m (h.puti h0 lp_RX1_31 rfl dX1_copyFrom_21) ?_
  refine E.nmM (fun M3 => ?_)
  refine E.m (h.aload_n 0 dX1_copyFrom_24 rfl) ?_
  refine E.m (h.aload_n 1 dX1_copyFrom_25 rfl) ?_
  refine E.m (h.get h1 lf_RX1_34 dX1_copyFrom_26 fv_1_3) ?_
  refine E.m (h.puti h0 lp_RX1_34 rfl dX1_copyFrom_29) ?_
  refine E.nmM (fun M4 => ?_)
  refine E.m (h.aload_n 0 dX1_copyFrom_32 rfl) ?_
  refine E.m (h.aload_n 1 dX1_copyFrom_33 rfl) ?_
  refine E.m (h.get h1 lf_RX1_37 dX1_copyFrom_34 fv_1_4) ?_
  refine E.m (h.puti h0 lp_RX1_37 rfl dX1_copyFrom_37) ?_
  refine E.nmM (fun M5 => ?_)
  refine E.m (h.aload_n 0 dX1_copyFrom_40 rfl) ?_
  refine E.m (h.aload_n 1 dX1_copyFrom_41 rfl) ?_
  refine E.m (h.get h1 lf_RX1_40 dX1_copyFrom_42 fv_1_5) ?_
  refine E.m (h.puti h0 lp_RX1_40 rfl dX1_copyFrom_45) ?_
  refine E.nmM (fun M6 => ?_)
  refine E.m (h.aload_n 0 dX1_copyFrom_48 rfl) ?_
  refine E.m (h.aload_n 1 dX1_copyFrom_49 rfl) ?_
  refine E.m (h.get h1 lf_RX1_43 dX1_copyFrom_50 fv_1_6) ?_
  refine E.m (h.puti h0 lp_RX1_43 rfl dX1_copyFrom_53) ?_
  refine E.nmM (fun M7 => ?_)
  refine E.m (h.aload_n 0 dX1_copyFrom_56 rfl) ?_
  refine E.m (h.aload_n 1 dX1_copyFrom_57 rfl) ?_
  refine E.m (h.get h1 lf_RX1_46 dX1_copyFrom_58 fv_1_7) ?_
  refine E.m (h.puti h0 lp_RX1_46 rfl dX1_copyFrom_61) ?_
  refine E.nmM (fun M8 => ?_)
  refine E.m (h.aload_n 0 dX1_copyFrom_64 rfl) ?_
  refine E.m (h.aload_n 1 dX1_copyFrom_65 rfl) ?_
  refine E.m (h.get h1 lf_RX1_49 dX1_copyFrom_66 fv_1_8) ?_
  refine E.m (h.puti h0 lp_RX1_49 rfl dX1_copyFrom_69) ?_
  refine E.nmM (fun M9 => ?_)
  refine E.m (h.aload_n 0 dX1_copyFrom_72 rfl) ?_
  refine E.m (h.aload_n 1 dX1_copyFrom_73 rfl) ?_
  refine E.m (h.get h1 lf_RX1_52 dX1_copyFrom_74 fv_1_12) ?_
  refine E.m (h.puti h0 lp_RX1_52 rfl dX1_copyFrom_77) ?_
  refine E.nmM (fun M10 => ?_)
  refine E.m (h.aload_n 0 dX1_copyFrom_80 rfl) ?_
  refine E.m (h.aload_n 1 dX1_copyFrom_81 rfl) ?_
  refine E.m (h.get h1 lf_RX1_55 dX1_copyFrom_82 fv_1_13) ?_
  refine E.m (h.puti h0 lp_RX1_55 rfl dX1_copyFrom_85) ?_
  refine E.nmM (fun M11 => ?_)
  refine E.m (h.aload_n 1 dX1_copyFrom_88 rfl) ?_
  refine E.m (h.get h1 lf_RX1_11 dX1_copyFrom_89 fv_1_9) ?_
  refine E.m (h.aload_n 0 dX1_copyFrom_92 rfl) ?_
  refine E.m (h.get h0 lf_RX1_11 dX1_copyFrom_93 fv_1_9) ?_
  refine E.bnd (fun _ M13 => w M13 99 [(0, .ref t), (1, .ref r1_)] []) (fun _ M13 hf k => h.callSN (As := [.ref (r1_ + 1), .ref (t + 1)]) (rest := []) (c_X10_copyRow hW (hW.clo 2 h1 rfl) (hW.clo 2 h0 rfl) hf) lm_X10_copyRow ls_m_X10_copyRow 32 rfl rfl rfl (Nat.le_of_ble_eq_true rfl) (by decide) dX1_copyFrom_96 rfl k) (fun _ M13 => ?_)
  refine E.m (h.aload_n 1 dX1_copyFrom_99 rfl) ?_
  refine E.m (h.get h1 lf_RX1_15 dX1_copyFrom_100 fv_1_10) ?_
  refine E.m (h.aload_n 0 dX1_copyFrom_103 rfl) ?_
  refine E.m (h.get h0 lf_RX1_15 dX1_copyFrom_104 fv_1_10) ?_
  refine E.bnd (fun _ M15 => w M15 110 [(0, .ref t), (1, .ref r1_)] []) (fun _ M15 hf k => h.callSN (As := [.ref (r1_ + 2), .ref (t + 2)]) (rest := []) (c_X10_copyRow hW (hW.clo 3 h1 rfl) (hW.clo 3 h0 rfl) hf) lm_X10_copyRow ls_m_X10_copyRow 32 rfl rfl rfl (Nat.le_of_ble_eq_true rfl) (by decide) dX1_copyFrom_107 rfl k) (fun _ M15 => ?_)
  refine E.m (h.aload_n 1 dX1_copyFrom_110 rfl) ?_
  refine E.m (h.get h1 lf_RX1_18 dX1_copyFrom_111 fv_1_11) ?_
  refine E.m (h.aload_n 0 dX1_copyFrom_114 rfl) ?_
  refine E.m (h.get h0 lf_RX1_18 dX1_copyFrom_115 fv_1_11) ?_
  refine E.bnd (fun _ M17 => w M17 121 [(0, .ref t), (1, .ref r1_)] []) (fun _ M17 hf k => h.callSN (As := [.ref (r1_ + 3), .ref (t + 3)]) (rest := []) (c_X10_copyRow hW (hW.clo 4 h1 rfl) (hW.clo 4 h0 rfl) hf) lm_X10_copyRow ls_m_X10_copyRow 32 rfl rfl rfl (Nat.le_of_ble_eq_true rfl) (by decide) dX1_copyFrom_118 rfl k) (fun _ M17 => ?_)
  exact E.some (ret_v hr dX1_copyFrom_121)
def f_X1_runClock (t : Nat) (M : Mem) : Option (Unit × Mem) :=
  nm (wi M t 1 ((M.1 t 1) + ((1000 : Int32) + (M.1 t 0)))) (fun M1 => some ((), M1))
set_option maxRecDepth 20000 in
theorem c_X1_runClock {G : Ctx} (hW : WFG G) {t : Nat} {M M' : Mem} (h0 : hs G t (0, 1)) (hf : f_X1_runClock t M = some ((), M')) : Ct G yX1_runClock cX1_runClock 1 none 0 0 [.ref t] M none M' := by
  refine ct_v hW (by decide +kernel) (Nat.le_of_ble_eq_true rfl) (fun w h hr => ?_)
  have h : Rb G cX1_runClock RX1 1 0 0 w := h
  refine (?_ : E (fun q => q = ((), M')) (f_X1_runClock t M) (w M 0 [(0, .ref t)] [])) _ hf rfl
  unfold f_X1_runClock
  refine E.m (h.aload_n 0 dX1_runClock_0 rfl) ?_
  refine E.m (h.dup dX1_runClock_1 rfl) ?_
  refine E.m (h.get h0 lf_RX1_28 dX1_runClock_2 fv_1_1) ?_
  refine E.m (h.sipush (v := (1000 : Int32)) dX1_runClock_5 (by decide)) ?_
  refine E.m (h.aload_n 0 dX1_runClock_8 rfl) ?_
  refine E.m (h.get h0 lf_RX1_27 dX1_runClock_9 fv_1_0) ?_
  refine E.m (h.iadd dX1_runClock_12) ?_
  refine E.m (h.iadd dX1_runClock_13) ?_
  refine E.m (h.puti h0 lp_RX1_28 rfl dX1_runClock_14) ?_
  refine E.nmM (fun M1 => ?_)
  exact E.some (ret_v hr dX1_runClock_17)
def f_X1_isOctetDue (t : Nat) (M : Mem) : Option (Int32 × Mem) :=
  jn1 (fun z1 => gdp (z1 = 0 ∨ z1 = 1) (some (z1, M))) (fun J15 => if (M.1 t 1) < (1000 : Int32) then (J15 (0 : Int32)) else (J15 (1 : Int32)))
set_option maxRecDepth 20000 in
theorem c_X1_isOctetDue {G : Ctx} (hW : WFG G) {t : Nat} {M M' : Mem} {r : Int32} (h0 : hs G t (0, 1)) (hf : f_X1_isOctetDue t M = some (r, M')) : Ct G yX1_isOctetDue cX1_isOctetDue 1 (some .boolean) 0 0 [.ref t] M (some (.int r)) M' := by
  refine ct_i hW (by decide +kernel) (Nat.le_of_ble_eq_true rfl) (fun w h hr => ?_)
  have h : Rb G cX1_isOctetDue RX1 1 0 0 w := h
  refine (?_ : E (fun q => q = (r, M')) (f_X1_isOctetDue t M) (w M 0 [(0, .ref t)] [])) _ hf rfl
  unfold f_X1_isOctetDue
  refine E.m (h.aload_n 0 dX1_isOctetDue_0 rfl) ?_
  refine E.m (h.get h0 lf_RX1_28 dX1_isOctetDue_1 fv_1_1) ?_
  refine E.m (h.sipush (v := (1000 : Int32)) dX1_isOctetDue_4 (by decide)) ?_
  refine E.join1 (fun z1 => w M 15 [(0, .ref t)] [.int z1]) (fun z1 => ?_) (fun J15 hJ15 => ?_)
  · refine E.gd (fun hc k => k hc) (fun hc => E.imp fun hc => ?_)
    exact E.some (ret_i hr (bl_n hc).1 dX1_isOctetDue_15)
  refine E.br (fun k1 k2 => h.icmp_lt (tgt := 14) dX1_isOctetDue_7 (by decide) k1 k2) ?_ ?_
  · refine E.m (h.iconst (v := (0 : Int32)) dX1_isOctetDue_14 (by decide)) ?_
    exact hJ15 _
  · refine E.m (h.iconst (v := (1 : Int32)) dX1_isOctetDue_10 (by decide)) ?_
    refine E.m (h.goto (tgt := 15) dX1_isOctetDue_11 (by decide)) ?_
    exact hJ15 _
def f_X7_isTold (t : Nat) (M : Mem) : Option (Int32 × Mem) :=
  jn1 (fun z1 => gdp (z1 = 0 ∨ z1 = 1) (some (z1, M))) (fun J12 => if (M.1 t 1) ≤ 0 then (J12 (0 : Int32)) else (J12 (1 : Int32)))
set_option maxRecDepth 20000 in
theorem c_X7_isTold {G : Ctx} (hW : WFG G) {t : Nat} {M M' : Mem} {r : Int32} (h0 : hs G t (0, 7)) (hf : f_X7_isTold t M = some (r, M')) : Ct G yX7_isTold cX7_isTold 1 (some .boolean) 0 0 [.ref t] M (some (.int r)) M' := by
  refine ct_i hW (by decide +kernel) (Nat.le_of_ble_eq_true rfl) (fun w h hr => ?_)
  have h : Rb G cX7_isTold RX7 1 0 0 w := h
  refine (?_ : E (fun q => q = (r, M')) (f_X7_isTold t M) (w M 0 [(0, .ref t)] [])) _ hf rfl
  unfold f_X7_isTold
  refine E.m (h.aload_n 0 dX7_isTold_0 rfl) ?_
  refine E.m (h.get h0 lf_RX7_18 dX7_isTold_1 fv_7_1) ?_
  refine E.join1 (fun z1 => w M 12 [(0, .ref t)] [.int z1]) (fun z1 => ?_) (fun J12 hJ12 => ?_)
  · refine E.gd (fun hc k => k hc) (fun hc => E.imp fun hc => ?_)
    exact E.some (ret_i hr (bl_n hc).1 dX7_isTold_12)
  refine E.br (fun k1 k2 => h.if_le (tgt := 11) dX7_isTold_4 (by decide) k1 k2) ?_ ?_
  · refine E.m (h.iconst (v := (0 : Int32)) dX7_isTold_11 (by decide)) ?_
    exact hJ12 _
  · refine E.m (h.iconst (v := (1 : Int32)) dX7_isTold_7 (by decide)) ?_
    refine E.m (h.goto (tgt := 12) dX7_isTold_8 (by decide)) ?_
    exact hJ12 _
def f_X7_combined (x1_ : Int32) (x2_ : Int32) (x3_ : Int32) (M : Mem) : Option (Int32 × Mem) :=
  if x1_.toInt < -12 ∨ -6 < x1_.toInt then (jn1 (fun z1 => some (z1, M)) (fun J117 => if x3_ = 0 then (J117 (0 : Int32)) else (gdp (¬ x3_ = 0) (J117 (x2_ / x3_))))) else if x1_ = (-12 : Int32) then (some (x2_ * x3_, M)) else if x1_ = (-11 : Int32) then (some (x2_ - x3_, M)) else if x1_ = (-10 : Int32) then (some (x2_ + x3_, M)) else if x1_ = (-9 : Int32) then (jn1 (fun z2 => some (z2, M)) (fun J93 => if x2_ = x3_ then (J93 (1 : Int32)) else (J93 (0 : Int32)))) else if x1_ = (-8 : Int32) then (jn1 (fun z3 => some (z3, M)) (fun J82 => if x3_ ≤ x2_ then (J82 (0 : Int32)) else (J82 (1 : Int32)))) else if x1_ = (-7 : Int32) then (jn1 (fun z4 => some (z4, M)) (fun J71 => jn0 (fun _ => J71 (0 : Int32)) (fun J70 => if x2_ = 0 then (J70 ()) else (if x3_ = 0 then (J70 ()) else (J71 (1 : Int32)))))) else if x1_ = (-6 : Int32) then (jn1 (fun z5 => some (z5, M)) (fun J57 => jn0 (fun _ => J57 (1 : Int32)) (fun J52 => if x2_ = 0 then (if x3_ = 0 then (J57 (0 : Int32)) else (J52 ())) else (J52 ())))) else none
set_option maxRecDepth 20000 in
theorem c_X7_combined {G : Ctx} (hW : WFG G) {x1_ : Int32} {x2_ : Int32} {x3_ : Int32} {M M' : Mem} {r : Int32} (hf : f_X7_combined x1_ x2_ x3_ M = some (r, M')) : Ct G yX7_combined cX7_combined 3 (some .int) 0 0 [.int x1_, .int x2_, .int x3_] M (some (.int r)) M' := by
  refine ct_i hW (by decide +kernel) (Nat.le_of_ble_eq_true rfl) (fun w h hr => ?_)
  have h : Rb G cX7_combined RX7 3 0 0 w := h
  refine (?_ : E (fun q => q = (r, M')) (f_X7_combined x1_ x2_ x3_ M) (w M 0 [(0, .int x1_), (1, .int x2_), (2, .int x3_)] [])) _ hf rfl
  unfold f_X7_combined
  refine E.m (h.iload_n 0 dX7_combined_0 rfl) ?_
  refine E.sw (fun hc k => h.tabOut (tgt := 106) dX7_combined_1 hc (by decide) k) ?_ (fun hn => ?_)
  · refine E.m (h.iload_n 2 dX7_combined_106 rfl) ?_
    refine E.join1 (fun z1 => w M 117 [(0, .int x1_), (1, .int x2_), (2, .int x3_)] [.int z1]) (fun z1 => ?_) (fun J117 hJ117 => ?_)
    · exact E.some (ret_i hr rfl dX7_combined_117)
    refine E.br (fun k1 k2 => h.if_ne (tgt := 114) dX7_combined_107 (by decide) k2 k1) ?_ ?_
    · refine E.m (h.iconst (v := (0 : Int32)) dX7_combined_110 (by decide)) ?_
      refine E.m (h.goto (tgt := 117) dX7_combined_111 (by decide)) ?_
      exact hJ117 _
    · refine E.m (h.iload_n 1 dX7_combined_114 rfl) ?_
      refine E.m (h.iload_n 2 dX7_combined_115 rfl) ?_
      refine E.gd (fun hc k => h.idiv hc dX7_combined_116 k) (fun _ => ?_)
      exact hJ117 _
  refine E.sw (fun hc k => h.tabIn (tgt := 102) dX7_combined_1 (by rw [hc]; decide) (by rw [hc]; decide) (by rw [hc]; rfl) (by decide) k) ?_ (fun _ => ?_)
  · refine E.m (h.iload_n 1 dX7_combined_102 rfl) ?_
    refine E.m (h.iload_n 2 dX7_combined_103 rfl) ?_
    refine E.m (h.imul dX7_combined_104) ?_
    exact E.some (ret_i hr rfl dX7_combined_105)
  refine E.sw (fun hc k => h.tabIn (tgt := 98) dX7_combined_1 (by rw [hc]; decide) (by rw [hc]; decide) (by rw [hc]; rfl) (by decide) k) ?_ (fun _ => ?_)
  · refine E.m (h.iload_n 1 dX7_combined_98 rfl) ?_
    refine E.m (h.iload_n 2 dX7_combined_99 rfl) ?_
    refine E.m (h.isub dX7_combined_100) ?_
    exact E.some (ret_i hr rfl dX7_combined_101)
  refine E.sw (fun hc k => h.tabIn (tgt := 94) dX7_combined_1 (by rw [hc]; decide) (by rw [hc]; decide) (by rw [hc]; rfl) (by decide) k) ?_ (fun _ => ?_)
  · refine E.m (h.iload_n 1 dX7_combined_94 rfl) ?_
    refine E.m (h.iload_n 2 dX7_combined_95 rfl) ?_
    refine E.m (h.iadd dX7_combined_96) ?_
    exact E.some (ret_i hr rfl dX7_combined_97)
  refine E.sw (fun hc k => h.tabIn (tgt := 83) dX7_combined_1 (by rw [hc]; decide) (by rw [hc]; decide) (by rw [hc]; rfl) (by decide) k) ?_ (fun _ => ?_)
  · refine E.m (h.iload_n 1 dX7_combined_83 rfl) ?_
    refine E.m (h.iload_n 2 dX7_combined_84 rfl) ?_
    refine E.join1 (fun z2 => w M 93 [(0, .int x1_), (1, .int x2_), (2, .int x3_)] [.int z2]) (fun z2 => ?_) (fun J93 hJ93 => ?_)
    · exact E.some (ret_i hr rfl dX7_combined_93)
    refine E.br (fun k1 k2 => h.icmp_ne (tgt := 92) dX7_combined_85 (by decide) k2 k1) ?_ ?_
    · refine E.m (h.iconst (v := (1 : Int32)) dX7_combined_88 (by decide)) ?_
      refine E.m (h.goto (tgt := 93) dX7_combined_89 (by decide)) ?_
      exact hJ93 _
    · refine E.m (h.iconst (v := (0 : Int32)) dX7_combined_92 (by decide)) ?_
      exact hJ93 _
  refine E.sw (fun hc k => h.tabIn (tgt := 72) dX7_combined_1 (by rw [hc]; decide) (by rw [hc]; decide) (by rw [hc]; rfl) (by decide) k) ?_ (fun _ => ?_)
  · refine E.m (h.iload_n 1 dX7_combined_72 rfl) ?_
    refine E.m (h.iload_n 2 dX7_combined_73 rfl) ?_
    refine E.join1 (fun z3 => w M 82 [(0, .int x1_), (1, .int x2_), (2, .int x3_)] [.int z3]) (fun z3 => ?_) (fun J82 hJ82 => ?_)
    · exact E.some (ret_i hr rfl dX7_combined_82)
    refine E.br (fun k1 k2 => h.icmp_ge (tgt := 81) dX7_combined_74 (by decide) k1 k2) ?_ ?_
    · refine E.m (h.iconst (v := (0 : Int32)) dX7_combined_81 (by decide)) ?_
      exact hJ82 _
    · refine E.m (h.iconst (v := (1 : Int32)) dX7_combined_77 (by decide)) ?_
      refine E.m (h.goto (tgt := 82) dX7_combined_78 (by decide)) ?_
      exact hJ82 _
  refine E.sw (fun hc k => h.tabIn (tgt := 58) dX7_combined_1 (by rw [hc]; decide) (by rw [hc]; decide) (by rw [hc]; rfl) (by decide) k) ?_ (fun _ => ?_)
  · refine E.m (h.iload_n 1 dX7_combined_58 rfl) ?_
    refine E.join1 (fun z4 => w M 71 [(0, .int x1_), (1, .int x2_), (2, .int x3_)] [.int z4]) (fun z4 => ?_) (fun J71 hJ71 => ?_)
    · exact E.some (ret_i hr rfl dX7_combined_71)
    refine E.join0 (fun _ => w M 70 [(0, .int x1_), (1, .int x2_), (2, .int x3_)] []) (fun _ => ?_) (fun J70 hJ70 => ?_)
    · refine E.m (h.iconst (v := (0 : Int32)) dX7_combined_70 (by decide)) ?_
      exact hJ71 _
    refine E.br (fun k1 k2 => h.if_eq (tgt := 70) dX7_combined_59 (by decide) k1 k2) ?_ ?_
    · exact hJ70 ()
    · refine E.m (h.iload_n 2 dX7_combined_62 rfl) ?_
      refine E.br (fun k1 k2 => h.if_eq (tgt := 70) dX7_combined_63 (by decide) k1 k2) ?_ ?_
      · exact hJ70 ()
      · refine E.m (h.iconst (v := (1 : Int32)) dX7_combined_66 (by decide)) ?_
        refine E.m (h.goto (tgt := 71) dX7_combined_67 (by decide)) ?_
        exact hJ71 _
  refine E.sw (fun hc k => h.tabIn (tgt := 44) dX7_combined_1 (by rw [hc]; decide) (by rw [hc]; decide) (by rw [hc]; rfl) (by decide) k) ?_ (fun _ => ?_)
  · refine E.m (h.iload_n 1 dX7_combined_44 rfl) ?_
    refine E.join1 (fun z5 => w M 57 [(0, .int x1_), (1, .int x2_), (2, .int x3_)] [.int z5]) (fun z5 => ?_) (fun J57 hJ57 => ?_)
    · exact E.some (ret_i hr rfl dX7_combined_57)
    refine E.join0 (fun _ => w M 52 [(0, .int x1_), (1, .int x2_), (2, .int x3_)] []) (fun _ => ?_) (fun J52 hJ52 => ?_)
    · refine E.m (h.iconst (v := (1 : Int32)) dX7_combined_52 (by decide)) ?_
      refine E.m (h.goto (tgt := 57) dX7_combined_53 (by decide)) ?_
      exact hJ57 _
    refine E.br (fun k1 k2 => h.if_ne (tgt := 52) dX7_combined_45 (by decide) k2 k1) ?_ ?_
    · refine E.m (h.iload_n 2 dX7_combined_48 rfl) ?_
      refine E.br (fun k1 k2 => h.if_eq (tgt := 56) dX7_combined_49 (by decide) k1 k2) ?_ ?_
      · refine E.m (h.iconst (v := (0 : Int32)) dX7_combined_56 (by decide)) ?_
        exact hJ57 _
      · exact hJ52 ()
    · exact hJ52 ()
  exact E.none
def f_X7_pick (x1_ : Int32) (x2_ : Int32) (x3_ : Int32) (x4_ : Int32) (x5_ : Int32) (M : Mem) : Option (Int32 × Mem) :=
  if x1_.toInt < -3 ∨ -1 < x1_.toInt then (some (x5_, M)) else if x1_ = (-3 : Int32) then (some (x4_, M)) else if x1_ = (-2 : Int32) then (some (x3_, M)) else if x1_ = (-1 : Int32) then (some (x2_, M)) else none
set_option maxRecDepth 20000 in
theorem c_X7_pick {G : Ctx} (hW : WFG G) {x1_ : Int32} {x2_ : Int32} {x3_ : Int32} {x4_ : Int32} {x5_ : Int32} {M M' : Mem} {r : Int32} (hf : f_X7_pick x1_ x2_ x3_ x4_ x5_ M = some (r, M')) : Ct G yX7_pick cX7_pick 5 (some .int) 0 0 [.int x1_, .int x2_, .int x3_, .int x4_, .int x5_] M (some (.int r)) M' := by
  refine ct_i hW (by decide +kernel) (Nat.le_of_ble_eq_true rfl) (fun w h hr => ?_)
  have h : Rb G cX7_pick RX7 5 0 0 w := h
  refine (?_ : E (fun q => q = (r, M')) (f_X7_pick x1_ x2_ x3_ x4_ x5_ M) (w M 0 [(0, .int x1_), (1, .int x2_), (2, .int x3_), (3, .int x4_), (4, .int x5_)] [])) _ hf rfl
  unfold f_X7_pick
  refine E.m (h.iload_n 0 dX7_pick_0 rfl) ?_
  refine E.sw (fun hc k => h.tabOut (tgt := 34) dX7_pick_1 hc (by decide) k) ?_ (fun hn => ?_)
  · refine E.m (h.iload 4 dX7_pick_34 rfl) ?_
    exact E.some (ret_i hr rfl dX7_pick_36)
  refine E.sw (fun hc k => h.tabIn (tgt := 32) dX7_pick_1 (by rw [hc]; decide) (by rw [hc]; decide) (by rw [hc]; rfl) (by decide) k) ?_ (fun _ => ?_)
  · refine E.m (h.iload_n 3 dX7_pick_32 rfl) ?_
    exact E.some (ret_i hr rfl dX7_pick_33)
  refine E.sw (fun hc k => h.tabIn (tgt := 30) dX7_pick_1 (by rw [hc]; decide) (by rw [hc]; decide) (by rw [hc]; rfl) (by decide) k) ?_ (fun _ => ?_)
  · refine E.m (h.iload_n 2 dX7_pick_30 rfl) ?_
    exact E.some (ret_i hr rfl dX7_pick_31)
  refine E.sw (fun hc k => h.tabIn (tgt := 28) dX7_pick_1 (by rw [hc]; decide) (by rw [hc]; decide) (by rw [hc]; rfl) (by decide) k) ?_ (fun _ => ?_)
  · refine E.m (h.iload_n 1 dX7_pick_28 rfl) ?_
    exact E.some (ret_i hr rfl dX7_pick_29)
  exact E.none
def l_X7_value_6 (t : Nat) (x1_ : Int32) (x2_ : Int32) (x3_ : Int32) (x4_ : Int32) (k1 : Int32) (k2 : Int32) (M3 : Mem) : Option ((Int32 × Int32 × Mem) ⊕ (Int32 × Mem)) :=
  if (M3.1 t 1) ≤ k2 then (bd (f_X10_at (t + 2) 40 (0 : Int32) M3) (fun u4 M5 => some (.inr (u4, M5)))) else (bd (f_X10_at (t + 1) 700 k2 M3) (fun u6 M7 => jn2 (fun z8 M9 => nm (k2 + (1 : Int32)) (fun y10 => some (.inl (z8, y10, M9)))) (fun J147 => if (-5 : Int32) ≤ u6 then (if u6 = (-5 : Int32) then (bd (f_X10_at (t + 2) 40 (k1 - (1 : Int32)) M7) (fun u18 M19 => jn1 (fun z20 => bd (f_X10_put (t + 2) 40 (k1 - (1 : Int32)) z20 M19) (fun _ M22 => J147 k1 M22)) (fun J109 => if u18 = 0 then (J109 (1 : Int32)) else (J109 (0 : Int32))))) else (jn2 (fun z11 M12 => bd (f_X10_put (t + 2) 40 k1 z11 M12) (fun _ M14 => nm (k1 + (1 : Int32)) (fun y15 => J147 y15 M14))) (fun J141 => if u6 < 0 then (bd (f_X7_pick u6 x1_ x2_ x3_ x4_ M7) (fun u16 M17 => J141 u16 M17)) else (J141 u6 M7)))) else (nm (k1 + (-1 : Int32)) (fun y23 => bd (f_X10_at (t + 2) 40 (y23 - (1 : Int32)) M7) (fun u24 M25 => bd (f_X10_at (t + 2) 40 y23 M25) (fun u26 M27 => bd (f_X7_combined u6 u24 u26 M27) (fun u28 M29 => bd (f_X10_put (t + 2) 40 (y23 - (1 : Int32)) u28 M29) (fun _ M31 => J147 y23 M31)))))))))
def f_X7_value (t : Nat) (x1_ : Int32) (x2_ : Int32) (x3_ : Int32) (x4_ : Int32) (M : Mem) : Option (Int32 × Mem) :=
  lop3 FU (l_X7_value_6 t x1_ x2_ x3_ x4_) (0 : Int32) (0 : Int32) M
set_option maxRecDepth 20000 in
theorem c_X7_value {G : Ctx} (hW : WFG G) {t : Nat} {x1_ : Int32} {x2_ : Int32} {x3_ : Int32} {x4_ : Int32} {M M' : Mem} {r : Int32} (h0 : hs G t (0, 7)) (hf : f_X7_value t x1_ x2_ x3_ x4_ M = some (r, M')) : Ct G yX7_value cX7_value 8 (some .int) 1 24 [.ref t, .int x1_, .int x2_, .int x3_, .int x4_] M (some (.int r)) M' := by
  refine ct_i hW (by decide +kernel) (Nat.le_of_ble_eq_true rfl) (fun w h hr => ?_)
  have h : Rb G cX7_value RX7 8 1 24 w := h
  refine (?_ : E (fun q => q = (r, M')) (f_X7_value t x1_ x2_ x3_ x4_ M) (w M 0 [(0, .ref t), (1, .int x1_), (2, .int x2_), (3, .int x3_), (4, .int x4_)] [])) _ hf rfl
  unfold f_X7_value
  refine E.m (h.iconst (v := (0 : Int32)) dX7_value_0 (by decide)) ?_
  refine E.m (h.istore dX7_value_1 (by decide) rfl) ?_
  refine E.m (h.iconst (v := (0 : Int32)) dX7_value_3 (by decide)) ?_
  refine E.m (h.istore dX7_value_4 (by decide) rfl) ?_
  refine E.m (h.sub [2, 3, 4, 5, 6, 1, 0] rfl) ?_
  refine E.loop3 (fun k1 k2 M3 => w M3 6 [(0, .ref t), (1, .int x1_), (2, .int x2_), (3, .int x3_), (4, .int x4_), (5, .int k1), (6, .int k2)] []) (fun k1 k2 M3 => ?_) _ _ _ _
  unfold l_X7_value_6
  refine E.m (h.iload 6 dX7_value_6 rfl) ?_
  refine E.m (h.aload_n 0 dX7_value_8 rfl) ?_
  refine E.m (h.get h0 lf_RX7_18 dX7_value_9 fv_7_1) ?_
  refine E.br (fun k1 k2 => h.icmp_ge (tgt := 153) dX7_value_12 (by decide) k1 k2) ?_ ?_
  · refine E.m (h.aload_n 0 dX7_value_153 rfl) ?_
    refine E.m (h.get h0 lf_RX7_15 dX7_value_154 fv_7_2) ?_
    refine E.m (h.iconst (v := (0 : Int32)) dX7_value_157 (by decide)) ?_
    refine E.bnd (fun u4 M5 => w M5 161 [(0, .ref t), (1, .int x1_), (2, .int x2_), (3, .int x3_), (4, .int x4_), (5, .int k1), (6, .int k2)] [.int u4]) (fun u4 M5 hf k => h.callSN (As := [.ref (t + 2), .int (0 : Int32)]) (rest := []) (c_X10_at hW (hW.clo 24 h0 rfl) hf) lm_X10_at ls_m_X10_at 15 rfl rfl rfl (Nat.le_of_ble_eq_true rfl) (by decide) dX7_value_158 rfl k) (fun u4 M5 => ?_)
    exact E.some (ret_i hr rfl dX7_value_161)
  · refine E.m (h.aload_n 0 dX7_value_15 rfl) ?_
    refine E.m (h.get h0 lf_RX7_9 dX7_value_16 fv_7_0) ?_
    refine E.m (h.iload 6 dX7_value_19 rfl) ?_
    refine E.bnd (fun u6 M7 => w M7 24 [(0, .ref t), (1, .int x1_), (2, .int x2_), (3, .int x3_), (4, .int x4_), (5, .int k1), (6, .int k2)] [.int u6]) (fun u6 M7 hf k => h.callSN (As := [.ref (t + 1), .int k2]) (rest := []) (c_X10_at hW (hW.clo 23 h0 rfl) hf) lm_X10_at ls_m_X10_at 15 rfl rfl rfl (Nat.le_of_ble_eq_true rfl) (by decide) dX7_value_21 rfl k) (fun u6 M7 => ?_)
    refine E.m (h.istore dX7_value_24 (by decide) rfl) ?_
    refine E.m (h.iload 0 dX7_value_26 rfl) ?_
    refine E.m (h.bipush (v := (-5 : Int32)) dX7_value_28 (by decide)) ?_
    refine E.join2 (fun z8 M9 => w M9 147 [(0, .ref t), (1, .int x1_), (2, .int x2_), (3, .int x3_), (4, .int x4_), (5, .int z8), (6, .int k2), (7, .int u6)] []) (fun z8 M9 => ?_) (fun J147 hJ147 => ?_)
    · refine E.m (h.iinc (v := (1 : Int32)) 6 dX7_value_147 rfl (by decide) (by decide) rfl) ?_
      refine E.nmL (fun y10 => ?_)
      refine E.m (h.goto (tgt := 6) dX7_value_150 (by decide)) ?_
      refine E.m (h.sub [1, 2, 3, 4, 5, 6, 0] rfl) ?_
      exact E.some (fun q => q)
    refine E.br (fun k1 k2 => h.icmp_ge (tgt := 75) dX7_value_30 (by decide) k1 k2) ?_ ?_
    · refine E.m (h.iload 0 dX7_value_75 rfl) ?_
      refine E.m (h.bipush (v := (-5 : Int32)) dX7_value_77 (by decide)) ?_
      refine E.br (fun k1 k2 => h.icmp_ne (tgt := 115) dX7_value_79 (by decide) k2 k1) ?_ ?_
      · refine E.m (h.aload_n 1 dX7_value_82 rfl) ?_
        refine E.m (h.get h0 lf_RX7_15 dX7_value_83 fv_7_2) ?_
        refine E.m (h.iload 6 dX7_value_86 rfl) ?_
        refine E.m (h.iconst (v := (1 : Int32)) dX7_value_88 (by decide)) ?_
        refine E.m (h.isub dX7_value_89) ?_
        refine E.m (h.aload_n 1 dX7_value_90 rfl) ?_
        refine E.m (h.get h0 lf_RX7_15 dX7_value_91 fv_7_2) ?_
        refine E.m (h.iload 6 dX7_value_94 rfl) ?_
        refine E.m (h.iconst (v := (1 : Int32)) dX7_value_96 (by decide)) ?_
        refine E.m (h.isub dX7_value_97) ?_
        refine E.bnd (fun u18 M19 => w M19 101 [(7, .int u6), (0, .ref t), (1, .int x1_), (2, .int x2_), (3, .int x3_), (4, .int x4_), (5, .int k1), (6, .int k2)] [.int u18, .int (k1 - (1 : Int32)), .ref (t + 2)]) (fun u18 M19 hf k => h.callSN (As := [.ref (t + 2), .int (k1 - (1 : Int32))]) (rest := [.int (k1 - (1 : Int32)), .ref (t + 2)]) (c_X10_at hW (hW.clo 24 h0 rfl) hf) lm_X10_at ls_m_X10_at 15 rfl rfl rfl (Nat.le_of_ble_eq_true rfl) (by decide) dX7_value_98 rfl k) (fun u18 M19 => ?_)
        refine E.join1 (fun z20 => w M19 109 [(0, .ref t), (1, .int x1_), (2, .int x2_), (3, .int x3_), (4, .int x4_), (5, .int k1), (6, .int k2), (7, .int u6)] [.int z20, .int (k1 - (1 : Int32)), .ref (t + 2)]) (fun z20 => ?_) (fun J109 hJ109 => ?_)
        · refine E.bnd (fun _ M22 => w M22 112 [(0, .ref t), (1, .int x1_), (2, .int x2_), (3, .int x3_), (4, .int x4_), (5, .int k1), (6, .int k2), (7, .int u6)] []) (fun _ M22 hf k => h.callSN (As := [.ref (t + 2), .int (k1 - (1 : Int32)), .int z20]) (rest := []) (c_X10_put hW (hW.clo 24 h0 rfl) hf) lm_X10_put ls_m_X10_put 16 rfl rfl rfl (Nat.le_of_ble_eq_true rfl) (by decide) dX7_value_109 rfl k) (fun _ M22 => ?_)
          refine E.m (h.goto (tgt := 147) dX7_value_112 (by decide)) ?_
          exact hJ147 _ _
        refine E.br (fun k1 k2 => h.if_ne (tgt := 108) dX7_value_101 (by decide) k2 k1) ?_ ?_
        · refine E.m (h.iconst (v := (1 : Int32)) dX7_value_104 (by decide)) ?_
          refine E.m (h.goto (tgt := 109) dX7_value_105 (by decide)) ?_
          refine E.m (h.sub [1, 2, 3, 4, 5, 6, 7, 0] rfl) ?_
          exact hJ109 _
        · refine E.m (h.iconst (v := (0 : Int32)) dX7_value_108 (by decide)) ?_
          refine E.m (h.sub [1, 2, 3, 4, 5, 6, 7, 0] rfl) ?_
          exact hJ109 _
      · refine E.m (h.aload_n 1 dX7_value_115 rfl) ?_
        refine E.m (h.get h0 lf_RX7_15 dX7_value_116 fv_7_2) ?_
        refine E.m (h.iload 6 dX7_value_119 rfl) ?_
        refine E.m (h.iload 0 dX7_value_121 rfl) ?_
        refine E.join2 (fun z11 M12 => w M12 141 [(0, .ref t), (1, .int x1_), (2, .int x2_), (3, .int x3_), (4, .int x4_), (5, .int k1), (6, .int k2), (7, .int u6)] [.int z11, .int k1, .ref (t + 2)]) (fun z11 M12 => ?_) (fun J141 hJ141 => ?_)
        · refine E.bnd (fun _ M14 => w M14 144 [(0, .ref t), (1, .int x1_), (2, .int x2_), (3, .int x3_), (4, .int x4_), (5, .int k1), (6, .int k2), (7, .int u6)] []) (fun _ M14 hf k => h.callSN (As := [.ref (t + 2), .int k1, .int z11]) (rest := []) (c_X10_put hW (hW.clo 24 h0 rfl) hf) lm_X10_put ls_m_X10_put 16 rfl rfl rfl (Nat.le_of_ble_eq_true rfl) (by decide) dX7_value_141 rfl k) (fun _ M14 => ?_)
          refine E.m (h.iinc (v := (1 : Int32)) 5 dX7_value_144 rfl (by decide) (by decide) rfl) ?_
          refine E.nmL (fun y15 => ?_)
          refine E.m (h.sub [1, 2, 3, 4, 5, 0, 6, 7] rfl) ?_
          exact hJ147 _ _
        refine E.br (fun k1 k2 => h.if_lt (tgt := 131) dX7_value_123 (by decide) k1 k2) ?_ ?_
        · refine E.m (h.iload 0 dX7_value_131 rfl) ?_
          refine E.m (h.iload_n 2 dX7_value_133 rfl) ?_
          refine E.m (h.iload_n 3 dX7_value_134 rfl) ?_
          refine E.m (h.iload_n 4 dX7_value_135 rfl) ?_
          refine E.m (h.iload 5 dX7_value_136 rfl) ?_
          refine E.bnd (fun u16 M17 => w M17 141 [(7, .int u6), (0, .ref t), (1, .int x1_), (2, .int x2_), (3, .int x3_), (4, .int x4_), (5, .int k1), (6, .int k2)] [.int u16, .int k1, .ref (t + 2)]) (fun u16 M17 hf k => h.callS (As := [.int u6, .int x1_, .int x2_, .int x3_, .int x4_]) (rest := [.int k1, .ref (t + 2)]) (c_X7_pick hW hf) lm_X7_pick ls_m_X7_pick ll_RX7_34 rfl rfl (Nat.le_of_ble_eq_true rfl) (by decide) dX7_value_138 rfl k) (fun u16 M17 => ?_)
          refine E.m (h.sub [1, 2, 3, 4, 5, 6, 7, 0] rfl) ?_
          exact hJ141 _ _
        · refine E.m (h.iload 0 dX7_value_126 rfl) ?_
          refine E.m (h.goto (tgt := 141) dX7_value_128 (by decide)) ?_
          refine E.m (h.sub [1, 2, 3, 4, 5, 6, 7, 0] rfl) ?_
          exact hJ141 _ _
    · refine E.m (h.iinc (v := (-1 : Int32)) 6 dX7_value_33 rfl (by decide) (by decide) rfl) ?_
      refine E.nmL (fun y23 => ?_)
      refine E.m (h.aload_n 2 dX7_value_36 rfl) ?_
      refine E.m (h.get h0 lf_RX7_15 dX7_value_37 fv_7_2) ?_
      refine E.m (h.iload 0 dX7_value_40 rfl) ?_
      refine E.m (h.iconst (v := (1 : Int32)) dX7_value_42 (by decide)) ?_
      refine E.m (h.isub dX7_value_43) ?_
      refine E.m (h.iload 1 dX7_value_44 rfl) ?_
      refine E.m (h.aload_n 2 dX7_value_46 rfl) ?_
      refine E.m (h.get h0 lf_RX7_15 dX7_value_47 fv_7_2) ?_
      refine E.m (h.iload 0 dX7_value_50 rfl) ?_
      refine E.m (h.iconst (v := (1 : Int32)) dX7_value_52 (by decide)) ?_
      refine E.m (h.isub dX7_value_53) ?_
      refine E.bnd (fun u24 M25 => w M25 57 [(5, .int y23), (7, .int u6), (0, .ref t), (1, .int x1_), (2, .int x2_), (3, .int x3_), (4, .int x4_), (6, .int k2)] [.int u24, .int u6, .int (y23 - (1 : Int32)), .ref (t + 2)]) (fun u24 M25 hf k => h.callSN (As := [.ref (t + 2), .int (y23 - (1 : Int32))]) (rest := [.int u6, .int (y23 - (1 : Int32)), .ref (t + 2)]) (c_X10_at hW (hW.clo 24 h0 rfl) hf) lm_X10_at ls_m_X10_at 15 rfl rfl rfl (Nat.le_of_ble_eq_true rfl) (by decide) dX7_value_54 rfl k) (fun u24 M25 => ?_)
      refine E.m (h.aload_n 2 dX7_value_57 rfl) ?_
      refine E.m (h.get h0 lf_RX7_15 dX7_value_58 fv_7_2) ?_
      refine E.m (h.iload 0 dX7_value_61 rfl) ?_
      refine E.bnd (fun u26 M27 => w M27 66 [(5, .int y23), (7, .int u6), (0, .ref t), (1, .int x1_), (2, .int x2_), (3, .int x3_), (4, .int x4_), (6, .int k2)] [.int u26, .int u24, .int u6, .int (y23 - (1 : Int32)), .ref (t + 2)]) (fun u26 M27 hf k => h.callSN (As := [.ref (t + 2), .int y23]) (rest := [.int u24, .int u6, .int (y23 - (1 : Int32)), .ref (t + 2)]) (c_X10_at hW (hW.clo 24 h0 rfl) hf) lm_X10_at ls_m_X10_at 15 rfl rfl rfl (Nat.le_of_ble_eq_true rfl) (by decide) dX7_value_63 rfl k) (fun u26 M27 => ?_)
      refine E.bnd (fun u28 M29 => w M29 69 [(5, .int y23), (7, .int u6), (0, .ref t), (1, .int x1_), (2, .int x2_), (3, .int x3_), (4, .int x4_), (6, .int k2)] [.int u28, .int (y23 - (1 : Int32)), .ref (t + 2)]) (fun u28 M29 hf k => h.callS (As := [.int u6, .int u24, .int u26]) (rest := [.int (y23 - (1 : Int32)), .ref (t + 2)]) (c_X7_combined hW hf) lm_X7_combined ls_m_X7_combined ll_RX7_30 rfl rfl (Nat.le_of_ble_eq_true rfl) (by decide) dX7_value_66 rfl k) (fun u28 M29 => ?_)
      refine E.bnd (fun _ M31 => w M31 72 [(5, .int y23), (7, .int u6), (0, .ref t), (1, .int x1_), (2, .int x2_), (3, .int x3_), (4, .int x4_), (6, .int k2)] []) (fun _ M31 hf k => h.callSN (As := [.ref (t + 2), .int (y23 - (1 : Int32)), .int u28]) (rest := []) (c_X10_put hW (hW.clo 24 h0 rfl) hf) lm_X10_put ls_m_X10_put 16 rfl rfl rfl (Nat.le_of_ble_eq_true rfl) (by decide) dX7_value_69 rfl k) (fun _ M31 => ?_)
      refine E.m (h.goto (tgt := 147) dX7_value_72 (by decide)) ?_
      refine E.m (h.sub [2, 3, 4, 5, 6, 0, 7, 1] rfl) ?_
      exact hJ147 _ _
def f_X10_within (x1_ : Int32) (x2_ : Int32) (x3_ : Int32) (M : Mem) : Option (Int32 × Mem) :=
  bd (f_J9_min_7cf53 x3_ x1_ M) (fun u1 M2 => bd (f_J9_max_7cf53 x2_ u1 M2) (fun u3 M4 => some (u3, M4)))
set_option maxRecDepth 20000 in
theorem c_X10_within {G : Ctx} (hW : WFG G) {x1_ : Int32} {x2_ : Int32} {x3_ : Int32} {M M' : Mem} {r : Int32} (hf : f_X10_within x1_ x2_ x3_ M = some (r, M')) : Ct G yX10_within cX10_within 3 (some .int) 1 21 [.int x1_, .int x2_, .int x3_] M (some (.int r)) M' := by
  refine ct_i hW (by decide +kernel) (Nat.le_of_ble_eq_true rfl) (fun w h hr => ?_)
  have h : Rb G cX10_within RX10 3 1 21 w := h
  refine (?_ : E (fun q => q = (r, M')) (f_X10_within x1_ x2_ x3_ M) (w M 0 [(0, .int x1_), (1, .int x2_), (2, .int x3_)] [])) _ hf rfl
  unfold f_X10_within
  refine E.m (h.iload_n 1 dX10_within_0 rfl) ?_
  refine E.m (h.iload_n 2 dX10_within_1 rfl) ?_
  refine E.m (h.iload_n 0 dX10_within_2 rfl) ?_
  refine E.bnd (fun u1 M2 => w M2 6 [(0, .int x1_), (1, .int x2_), (2, .int x3_)] [.int u1, .int x2_]) (fun u1 M2 hf k => h.callS (As := [.int x3_, .int x1_]) (rest := [.int x2_]) (c_J9_min_7cf53 hW hf) lm_J9_min_7cf53 ls_m_J9_min_7cf53 ll_RX10_361 rfl rfl (Nat.le_of_ble_eq_true rfl) (by decide) dX10_within_3 rfl k) (fun u1 M2 => ?_)
  refine E.bnd (fun u3 M4 => w M4 9 [(0, .int x1_), (1, .int x2_), (2, .int x3_)] [.int u3]) (fun u3 M4 hf k => h.callS (As := [.int x2_, .int u1]) (rest := []) (c_J9_max_7cf53 hW hf) lm_J9_max_7cf53 ls_m_J9_max_7cf53 ll_RX10_364 rfl rfl (Nat.le_of_ble_eq_true rfl) (by decide) dX10_within_6 rfl k) (fun u3 M4 => ?_)
  exact E.some (ret_i hr rfl dX10_within_9)
def f_X1_isLost (t : Nat) (x1_ : Int32) (M : Mem) : Option (Int32 × Mem) :=
  jn1 (fun M1 => jn1 (fun z2 => gdp (z2 = 0 ∨ z2 = 1) (some (z2, M1))) (fun J80 => jn0 (fun _ => J80 (1 : Int32)) (fun J75 => if x1_ = 0 then (if (M1.1 t 8) < (40 : Int32) then (J80 (0 : Int32)) else (J75 ())) else (J75 ())))) (fun J62 => if (M.1 t 12) ≤ 0 then (if (M.1 t 6) ≤ 0 then (J62 M) else (nm (wi M t 6 ((M.1 t 6) - (1 : Int32))) (fun M3 => some ((1 : Int32), M3)))) else (nm ((M.1 t 13) &&& (1 : Int32)) (fun y4 => nm (wi M t 12 ((M.1 t 12) - (1 : Int32))) (fun M5 => nm (wi M5 t 13 ((M5.1 t 13) >>> ((1 : Int32) &&& 31))) (fun M6 => if y4 = 0 then (J62 M6) else (some ((1 : Int32), M6)))))))
set_option maxRecDepth 20000 in
theorem c_X1_isLost {G : Ctx} (hW : WFG G) {t : Nat} {x1_ : Int32} {M M' : Mem} {r : Int32} (h0 : hs G t (0, 1)) (hf : f_X1_isLost t x1_ M = some (r, M')) : Ct G yX1_isLost cX1_isLost 3 (some .boolean) 0 0 [.ref t, .int x1_] M (some (.int r)) M' := by
  refine ct_i hW (by decide +kernel) (Nat.le_of_ble_eq_true rfl) (fun w h hr => ?_)
  have h : Rb G cX1_isLost RX1 3 0 0 w := h
  refine (?_ : E (fun q => q = (r, M')) (f_X1_isLost t x1_ M) (w M 0 [(0, .ref t), (1, .int x1_)] [])) _ hf rfl
  unfold f_X1_isLost
  refine E.m (h.aload_n 0 dX1_isLost_0 rfl) ?_
  refine E.m (h.get h0 lf_RX1_52 dX1_isLost_1 fv_1_12) ?_
  refine E.join1 (fun M1 => w M1 62 [(0, .ref t), (1, .int x1_)] []) (fun M1 => ?_) (fun J62 hJ62 => ?_)
  · refine E.m (h.iload_n 1 dX1_isLost_62 rfl) ?_
    refine E.join1 (fun z2 => w M1 80 [(0, .ref t), (1, .int x1_)] [.int z2]) (fun z2 => ?_) (fun J80 hJ80 => ?_)
    · refine E.gd (fun hc k => k hc) (fun hc => E.imp fun hc => ?_)
      exact E.some (ret_i hr (bl_n hc).1 dX1_isLost_80)
    refine E.join0 (fun _ => w M1 75 [(0, .ref t), (1, .int x1_)] []) (fun _ => ?_) (fun J75 hJ75 => ?_)
    · refine E.m (h.iconst (v := (1 : Int32)) dX1_isLost_75 (by decide)) ?_
      refine E.m (h.goto (tgt := 80) dX1_isLost_76 (by decide)) ?_
      exact hJ80 _
    refine E.br (fun k1 k2 => h.if_ne (tgt := 75) dX1_isLost_63 (by decide) k2 k1) ?_ ?_
    · refine E.m (h.aload_n 0 dX1_isLost_66 rfl) ?_
      refine E.m (h.get h0 lf_RX1_49 dX1_isLost_67 fv_1_8) ?_
      refine E.m (h.bipush (v := (40 : Int32)) dX1_isLost_70 (by decide)) ?_
      refine E.br (fun k1 k2 => h.icmp_lt (tgt := 79) dX1_isLost_72 (by decide) k1 k2) ?_ ?_
      · refine E.m (h.iconst (v := (0 : Int32)) dX1_isLost_79 (by decide)) ?_
        exact hJ80 _
      · exact hJ75 ()
    · exact hJ75 ()
  refine E.br (fun k1 k2 => h.if_le (tgt := 43) dX1_isLost_4 (by decide) k1 k2) ?_ ?_
  · refine E.m (h.aload_n 0 dX1_isLost_43 rfl) ?_
    refine E.m (h.get h0 lf_RX1_43 dX1_isLost_44 fv_1_6) ?_
    refine E.br (fun k1 k2 => h.if_le (tgt := 62) dX1_isLost_47 (by decide) k1 k2) ?_ ?_
    · exact hJ62 _
    · refine E.m (h.aload_n 0 dX1_isLost_50 rfl) ?_
      refine E.m (h.dup dX1_isLost_51 rfl) ?_
      refine E.m (h.get h0 lf_RX1_43 dX1_isLost_52 fv_1_6) ?_
      refine E.m (h.iconst (v := (1 : Int32)) dX1_isLost_55 (by decide)) ?_
      refine E.m (h.isub dX1_isLost_56) ?_
      refine E.m (h.puti h0 lp_RX1_43 rfl dX1_isLost_57) ?_
      refine E.nmM (fun M3 => ?_)
      refine E.m (h.iconst (v := (1 : Int32)) dX1_isLost_60 (by decide)) ?_
      exact E.some (ret_i hr rfl dX1_isLost_61)
  · refine E.m (h.aload_n 0 dX1_isLost_7 rfl) ?_
    refine E.m (h.get h0 lf_RX1_55 dX1_isLost_8 fv_1_13) ?_
    refine E.m (h.iconst (v := (1 : Int32)) dX1_isLost_11 (by decide)) ?_
    refine E.m (h.iand dX1_isLost_12) ?_
    refine E.m (h.istore_n dX1_isLost_13 (by decide) rfl) ?_
    refine E.nmL (fun y4 => ?_)
    refine E.m (h.aload_n 1 dX1_isLost_14 rfl) ?_
    refine E.m (h.dup dX1_isLost_15 rfl) ?_
    refine E.m (h.get h0 lf_RX1_52 dX1_isLost_16 fv_1_12) ?_
    refine E.m (h.iconst (v := (1 : Int32)) dX1_isLost_19 (by decide)) ?_
    refine E.m (h.isub dX1_isLost_20) ?_
    refine E.m (h.puti h0 lp_RX1_52 rfl dX1_isLost_21) ?_
    refine E.nmM (fun M5 => ?_)
    refine E.m (h.aload_n 1 dX1_isLost_24 rfl) ?_
    refine E.m (h.dup dX1_isLost_25 rfl) ?_
    refine E.m (h.get h0 lf_RX1_55 dX1_isLost_26 fv_1_13) ?_
    refine E.m (h.iconst (v := (1 : Int32)) dX1_isLost_29 (by decide)) ?_
    refine E.m (h.ishr dX1_isLost_30) ?_
    refine E.m (h.puti h0 lp_RX1_55 rfl dX1_isLost_31) ?_
    refine E.nmM (fun M6 => ?_)
    refine E.m (h.iload_n 0 dX1_isLost_34 rfl) ?_
    refine E.br (fun k1 k2 => h.if_eq (tgt := 40) dX1_isLost_35 (by decide) k1 k2) ?_ ?_
    · refine E.m (h.goto (tgt := 62) dX1_isLost_40 (by decide)) ?_
      refine E.m (h.sub [1, 2] rfl) ?_
      exact hJ62 _
    · refine E.m (h.iconst (v := (1 : Int32)) dX1_isLost_38 (by decide)) ?_
      exact E.some (ret_i hr rfl dX1_isLost_39)
def f_X1_send (t : Nat) (r1_ : Nat) (x2_ : Int32) (M : Mem) : Option (Unit × Mem) :=
  bd (f_X7_isTold (r1_ + 2) M) (fun u1 M2 => jn2 (fun z3 M4 => bd (f_X7_isTold (r1_ + 5) M4) (fun u5 M6 => jn2 (fun z7 M8 => bd (f_X1_isLost t z7 M8) (fun u9 M10 => jn1 (fun M11 => nm (wi M11 t 5 z3) (fun M12 => nm (wi M12 t 3 ((M12.1 t 3) + (1 : Int32))) (fun M13 => some ((), M13)))) (fun J163 => if u9 = 0 then (bd (f_X10_put (t + 1) 40 (M10.1 t 8) (M10.1 t 3) M10) (fun _ M15 => bd (f_X10_put (t + 2) 40 (M15.1 t 8) ((x2_ + z3) + (M15.1 t 7)) M15) (fun _ M17 => bd (f_X10_mod x2_ (256 : Int32) M17) (fun u18 M19 => bd (f_X10_put (t + 3) 40 (M17.1 t 8) u18 M19) (fun _ M21 => nm (wi M21 t 8 ((M21.1 t 8) + (1 : Int32))) (fun M22 => J163 M22)))))) else (nm (wi M10 t 4 ((M10.1 t 4) + (1 : Int32))) (fun M23 => J163 M23))))) (fun J77 => jn1 (fun M24 => J77 (0 : Int32) M24) (fun J76 => if u5 = 0 then (J76 M6) else (bd (f_X7_value (r1_ + 5) (M6.1 t 3) x2_ (M6.1 t 5) (M6.1 t 8) M6) (fun u25 M26 => if u25 ≤ 0 then (J76 M26) else (J77 (1 : Int32) M26))))))) (fun J39 => if u1 = 0 then (J39 (3 : Int32) M2) else (bd (f_X7_value (r1_ + 2) (M2.1 t 3) x2_ (M2.1 t 5) (M2.1 t 8) M2) (fun u27 M28 => bd (f_X10_within u27 (0 : Int32) (60 : Int32) M28) (fun u29 M30 => J39 u29 M30)))))
set_option maxRecDepth 20000 in
theorem c_X1_send {G : Ctx} (hW : WFG G) {t : Nat} {r1_ : Nat} {x2_ : Int32} {M M' : Mem} (h0 : hs G t (0, 1)) (h1 : hs G r1_ (0, 3)) (hf : f_X1_send t r1_ x2_ M = some ((), M')) : Ct G yX1_send cX1_send 5 none 2 51 [.ref t, .ref r1_, .int x2_] M none M' := by
  refine ct_v hW (by decide +kernel) (Nat.le_of_ble_eq_true rfl) (fun w h hr => ?_)
  have h : Rb G cX1_send RX1 5 2 51 w := h
  refine (?_ : E (fun q => q = ((), M')) (f_X1_send t r1_ x2_ M) (w M 0 [(0, .ref t), (1, .ref r1_), (2, .int x2_)] [])) _ hf rfl
  unfold f_X1_send
  refine E.m (h.iconst (v := (3 : Int32)) dX1_send_0 (by decide)) ?_
  refine E.m (h.istore_n dX1_send_1 (by decide) rfl) ?_
  refine E.m (h.aload_n 2 dX1_send_2 rfl) ?_
  refine E.m (h.get h1 lf_RX1_73 dX1_send_3 fv_3_9) ?_
  refine E.bnd (fun u1 M2 => w M2 9 [(3, .int (3 : Int32)), (0, .ref t), (1, .ref r1_), (2, .int x2_)] [.int u1]) (fun u1 M2 hf k => h.callV (As := []) (rest := []) (c_X7_isTold hW (hW.clo 10 h1 rfl) hf) lm_X7_isTold lv_m_X7_isTold ll_RX1_77 (hW.clo 10 h1 rfl) lc_7 rfl rfl (Nat.le_of_ble_eq_true rfl) (by decide) dX1_send_6 rfl k) (fun u1 M2 => ?_)
  refine E.join2 (fun z3 M4 => w M4 39 [(0, .ref t), (1, .ref r1_), (2, .int x2_), (3, .int z3)] []) (fun z3 M4 => ?_) (fun J39 hJ39 => ?_)
  · refine E.m (h.aload_n 1 dX1_send_39 rfl) ?_
    refine E.m (h.get h1 lf_RX1_91 dX1_send_40 fv_3_10) ?_
    refine E.bnd (fun u5 M6 => w M6 46 [(0, .ref t), (1, .ref r1_), (2, .int x2_), (3, .int z3)] [.int u5]) (fun u5 M6 hf k => h.callV (As := []) (rest := []) (c_X7_isTold hW (hW.clo 11 h1 rfl) hf) lm_X7_isTold lv_m_X7_isTold ll_RX1_77 (hW.clo 11 h1 rfl) lc_7 rfl rfl (Nat.le_of_ble_eq_true rfl) (by decide) dX1_send_43 rfl k) (fun u5 M6 => ?_)
    refine E.join2 (fun z7 M8 => w M8 77 [(0, .ref t), (1, .ref r1_), (2, .int x2_), (3, .int z3)] [.int z7]) (fun z7 M8 => ?_) (fun J77 hJ77 => ?_)
    · refine E.m (h.istore dX1_send_77 (by decide) rfl) ?_
      refine E.m (h.aload_n 1 dX1_send_79 rfl) ?_
      refine E.m (h.iload 0 dX1_send_80 rfl) ?_
      refine E.bnd (fun u9 M10 => w M10 85 [(4, .int z7), (0, .ref t), (1, .ref r1_), (2, .int x2_), (3, .int z3)] [.int u9]) (fun u9 M10 hf k => h.callV (As := [.int z7]) (rest := []) (c_X1_isLost hW h0 hf) lm_X1_isLost lv_m_X1_isLost ll_RX1_93 h0 lc_1 rfl rfl (Nat.le_of_ble_eq_true rfl) (by decide) dX1_send_82 rfl k) (fun u9 M10 => ?_)
      refine E.join1 (fun M11 => w M11 163 [(0, .ref t), (1, .ref r1_), (2, .int x2_), (3, .int z3), (4, .int z7)] []) (fun M11 => ?_) (fun J163 hJ163 => ?_)
      · refine E.m (h.aload_n 0 dX1_send_163 rfl) ?_
        refine E.m (h.iload_n 3 dX1_send_164 rfl) ?_
        refine E.m (h.puti h0 lp_RX1_40 rfl dX1_send_165) ?_
        refine E.nmM (fun M12 => ?_)
        refine E.m (h.aload_n 0 dX1_send_168 rfl) ?_
        refine E.m (h.dup dX1_send_169 rfl) ?_
        refine E.m (h.get h0 lf_RX1_34 dX1_send_170 fv_1_3) ?_
        refine E.m (h.iconst (v := (1 : Int32)) dX1_send_173 (by decide)) ?_
        refine E.m (h.iadd dX1_send_174) ?_
        refine E.m (h.puti h0 lp_RX1_34 rfl dX1_send_175) ?_
        refine E.nmM (fun M13 => ?_)
        exact E.some (ret_v hr dX1_send_178)
      refine E.br (fun k1 k2 => h.if_eq (tgt := 101) dX1_send_85 (by decide) k1 k2) ?_ ?_
      · refine E.m (h.aload_n 1 dX1_send_101 rfl) ?_
        refine E.m (h.get h0 lf_RX1_11 dX1_send_102 fv_1_9) ?_
        refine E.m (h.aload_n 1 dX1_send_105 rfl) ?_
        refine E.m (h.get h0 lf_RX1_49 dX1_send_106 fv_1_8) ?_
        refine E.m (h.aload_n 1 dX1_send_109 rfl) ?_
        refine E.m (h.get h0 lf_RX1_34 dX1_send_110 fv_1_3) ?_
        refine E.bnd (fun _ M15 => w M15 116 [(4, .int z7), (0, .ref t), (1, .ref r1_), (2, .int x2_), (3, .int z3)] []) (fun _ M15 hf k => h.callSN (As := [.ref (t + 1), .int (M10.1 t 8), .int (M10.1 t 3)]) (rest := []) (c_X10_put hW (hW.clo 2 h0 rfl) hf) lm_X10_put ls_m_X10_put 18 rfl rfl rfl (Nat.le_of_ble_eq_true rfl) (by decide) dX1_send_113 rfl k) (fun _ M15 => ?_)
        refine E.m (h.aload_n 1 dX1_send_116 rfl) ?_
        refine E.m (h.get h0 lf_RX1_15 dX1_send_117 fv_1_10) ?_
        refine E.m (h.aload_n 1 dX1_send_120 rfl) ?_
        refine E.m (h.get h0 lf_RX1_49 dX1_send_121 fv_1_8) ?_
        refine E.m (h.iload_n 3 dX1_send_124 rfl) ?_
        refine E.m (h.iload_n 4 dX1_send_125 rfl) ?_
        refine E.m (h.iadd dX1_send_126) ?_
        refine E.m (h.aload_n 1 dX1_send_127 rfl) ?_
        refine E.m (h.get h0 lf_RX1_46 dX1_send_128 fv_1_7) ?_
        refine E.m (h.iadd dX1_send_131) ?_
        refine E.bnd (fun _ M17 => w M17 135 [(4, .int z7), (0, .ref t), (1, .ref r1_), (2, .int x2_), (3, .int z3)] []) (fun _ M17 hf k => h.callSN (As := [.ref (t + 2), .int (M15.1 t 8), .int ((x2_ + z3) + (M15.1 t 7))]) (rest := []) (c_X10_put hW (hW.clo 3 h0 rfl) hf) lm_X10_put ls_m_X10_put 18 rfl rfl rfl (Nat.le_of_ble_eq_true rfl) (by decide) dX1_send_132 rfl k) (fun _ M17 => ?_)
        refine E.m (h.aload_n 1 dX1_send_135 rfl) ?_
        refine E.m (h.get h0 lf_RX1_18 dX1_send_136 fv_1_11) ?_
        refine E.m (h.aload_n 1 dX1_send_139 rfl) ?_
        refine E.m (h.get h0 lf_RX1_49 dX1_send_140 fv_1_8) ?_
        refine E.m (h.iload_n 3 dX1_send_143 rfl) ?_
        refine E.m (h.sipush (v := (256 : Int32)) dX1_send_144 (by decide)) ?_
        refine E.bnd (fun u18 M19 => w M19 150 [(4, .int z7), (0, .ref t), (1, .ref r1_), (2, .int x2_), (3, .int z3)] [.int u18, .int (M17.1 t 8), .ref (t + 3)]) (fun u18 M19 hf k => h.callSN (As := [.int x2_, .int (256 : Int32)]) (rest := [.int (M17.1 t 8), .ref (t + 3)]) (c_X10_mod hW hf) lm_X10_mod ls_m_X10_mod 14 rfl rfl rfl (Nat.le_of_ble_eq_true rfl) (by decide) dX1_send_147 rfl k) (fun u18 M19 => ?_)
        refine E.bnd (fun _ M21 => w M21 153 [(4, .int z7), (0, .ref t), (1, .ref r1_), (2, .int x2_), (3, .int z3)] []) (fun _ M21 hf k => h.callSN (As := [.ref (t + 3), .int (M17.1 t 8), .int u18]) (rest := []) (c_X10_put hW (hW.clo 4 h0 rfl) hf) lm_X10_put ls_m_X10_put 18 rfl rfl rfl (Nat.le_of_ble_eq_true rfl) (by decide) dX1_send_150 rfl k) (fun _ M21 => ?_)
        refine E.m (h.aload_n 1 dX1_send_153 rfl) ?_
        refine E.m (h.dup dX1_send_154 rfl) ?_
        refine E.m (h.get h0 lf_RX1_49 dX1_send_155 fv_1_8) ?_
        refine E.m (h.iconst (v := (1 : Int32)) dX1_send_158 (by decide)) ?_
        refine E.m (h.iadd dX1_send_159) ?_
        refine E.m (h.puti h0 lp_RX1_49 rfl dX1_send_160) ?_
        refine E.nmM (fun M22 => ?_)
        refine E.m (h.sub [1, 2, 3, 4, 0] rfl) ?_
        exact hJ163 _
      · refine E.m (h.aload_n 1 dX1_send_88 rfl) ?_
        refine E.m (h.dup dX1_send_89 rfl) ?_
        refine E.m (h.get h0 lf_RX1_37 dX1_send_90 fv_1_4) ?_
        refine E.m (h.iconst (v := (1 : Int32)) dX1_send_93 (by decide)) ?_
        refine E.m (h.iadd dX1_send_94) ?_
        refine E.m (h.puti h0 lp_RX1_37 rfl dX1_send_95) ?_
        refine E.nmM (fun M23 => ?_)
        refine E.m (h.goto (tgt := 163) dX1_send_98 (by decide)) ?_
        refine E.m (h.sub [1, 2, 3, 4, 0] rfl) ?_
        exact hJ163 _
    refine E.join1 (fun M24 => w M24 76 [(0, .ref t), (1, .ref r1_), (2, .int x2_), (3, .int z3)] []) (fun M24 => ?_) (fun J76 hJ76 => ?_)
    · refine E.m (h.iconst (v := (0 : Int32)) dX1_send_76 (by decide)) ?_
      exact hJ77 _ _
    refine E.br (fun k1 k2 => h.if_eq (tgt := 76) dX1_send_46 (by decide) k1 k2) ?_ ?_
    · exact hJ76 _
    · refine E.m (h.aload_n 1 dX1_send_49 rfl) ?_
      refine E.m (h.get h1 lf_RX1_91 dX1_send_50 fv_3_10) ?_
      refine E.m (h.aload_n 0 dX1_send_53 rfl) ?_
      refine E.m (h.get h0 lf_RX1_34 dX1_send_54 fv_1_3) ?_
      refine E.m (h.iload_n 2 dX1_send_57 rfl) ?_
      refine E.m (h.aload_n 0 dX1_send_58 rfl) ?_
      refine E.m (h.get h0 lf_RX1_40 dX1_send_59 fv_1_5) ?_
      refine E.m (h.aload_n 0 dX1_send_62 rfl) ?_
      refine E.m (h.get h0 lf_RX1_49 dX1_send_63 fv_1_8) ?_
      refine E.bnd (fun u25 M26 => w M26 69 [(0, .ref t), (1, .ref r1_), (2, .int x2_), (3, .int z3)] [.int u25]) (fun u25 M26 hf k => h.callV (As := [.int (M6.1 t 3), .int x2_, .int (M6.1 t 5), .int (M6.1 t 8)]) (rest := []) (c_X7_value hW (hW.clo 11 h1 rfl) hf) lm_X7_value lv_m_X7_value ll_RX1_83 (hW.clo 11 h1 rfl) lc_7 rfl rfl (Nat.le_of_ble_eq_true rfl) (by decide) dX1_send_66 rfl k) (fun u25 M26 => ?_)
      refine E.br (fun k1 k2 => h.if_le (tgt := 76) dX1_send_69 (by decide) k1 k2) ?_ ?_
      · exact hJ76 _
      · refine E.m (h.iconst (v := (1 : Int32)) dX1_send_72 (by decide)) ?_
        refine E.m (h.goto (tgt := 77) dX1_send_73 (by decide)) ?_
        exact hJ77 _ _
  refine E.br (fun k1 k2 => h.if_eq (tgt := 39) dX1_send_9 (by decide) k1 k2) ?_ ?_
  · refine E.m (h.sub [1, 2, 3, 0] rfl) ?_
    exact hJ39 _ _
  · refine E.m (h.aload_n 2 dX1_send_12 rfl) ?_
    refine E.m (h.get h1 lf_RX1_73 dX1_send_13 fv_3_9) ?_
    refine E.m (h.aload_n 1 dX1_send_16 rfl) ?_
    refine E.m (h.get h0 lf_RX1_34 dX1_send_17 fv_1_3) ?_
    refine E.m (h.iload_n 3 dX1_send_20 rfl) ?_
    refine E.m (h.aload_n 1 dX1_send_21 rfl) ?_
    refine E.m (h.get h0 lf_RX1_40 dX1_send_22 fv_1_5) ?_
    refine E.m (h.aload_n 1 dX1_send_25 rfl) ?_
    refine E.m (h.get h0 lf_RX1_49 dX1_send_26 fv_1_8) ?_
    refine E.bnd (fun u27 M28 => w M28 32 [(3, .int (3 : Int32)), (0, .ref t), (1, .ref r1_), (2, .int x2_)] [.int u27]) (fun u27 M28 hf k => h.callV (As := [.int (M2.1 t 3), .int x2_, .int (M2.1 t 5), .int (M2.1 t 8)]) (rest := []) (c_X7_value hW (hW.clo 10 h1 rfl) hf) lm_X7_value lv_m_X7_value ll_RX1_83 (hW.clo 10 h1 rfl) lc_7 rfl rfl (Nat.le_of_ble_eq_true rfl) (by decide) dX1_send_29 rfl k) (fun u27 M28 => ?_)
    refine E.m (h.iconst (v := (0 : Int32)) dX1_send_32 (by decide)) ?_
    refine E.m (h.bipush (v := (60 : Int32)) dX1_send_33 (by decide)) ?_
    refine E.bnd (fun u29 M30 => w M30 38 [(3, .int (3 : Int32)), (0, .ref t), (1, .ref r1_), (2, .int x2_)] [.int u29]) (fun u29 M30 hf k => h.callSN (As := [.int u27, .int (0 : Int32), .int (60 : Int32)]) (rest := []) (c_X10_within hW hf) lm_X10_within ls_m_X10_within 17 rfl rfl rfl (Nat.le_of_ble_eq_true rfl) (by decide) dX1_send_35 rfl k) (fun u29 M30 => ?_)
    refine E.m (h.istore_n dX1_send_38 (by decide) rfl) ?_
    refine E.m (h.sub [1, 2, 3, 0] rfl) ?_
    exact hJ39 _ _
def f_X1_makeOctet (t : Nat) (r1_ : Nat) (x2_ : Int32) (M : Mem) : Option (Unit × Mem) :=
  nm (wi M t 1 ((M.1 t 1) - (1000 : Int32))) (fun M1 => nm (wi M1 t 2 ((M1.1 t 2) + (1 : Int32))) (fun M2 => bd (f_X10_mod (M2.1 t 2) (M2.1 r1_ 0) M2) (fun u3 M4 => jn1 (fun M5 => some ((), M5)) (fun J42 => if u3 = 0 then (bd (f_X1_send t r1_ x2_ M4) (fun _ M7 => J42 M7)) else (J42 M4)))))
set_option maxRecDepth 20000 in
theorem c_X1_makeOctet {G : Ctx} (hW : WFG G) {t : Nat} {r1_ : Nat} {x2_ : Int32} {M M' : Mem} (h0 : hs G t (0, 1)) (h1 : hs G r1_ (0, 3)) (hf : f_X1_makeOctet t r1_ x2_ M = some ((), M')) : Ct G yX1_makeOctet cX1_makeOctet 3 none 3 75 [.ref t, .ref r1_, .int x2_] M none M' := by
  refine ct_v hW (by decide +kernel) (Nat.le_of_ble_eq_true rfl) (fun w h hr => ?_)
  have h : Rb G cX1_makeOctet RX1 3 3 75 w := h
  refine (?_ : E (fun q => q = ((), M')) (f_X1_makeOctet t r1_ x2_ M) (w M 0 [(0, .ref t), (1, .ref r1_), (2, .int x2_)] [])) _ hf rfl
  unfold f_X1_makeOctet
  refine E.m (h.aload_n 0 dX1_makeOctet_0 rfl) ?_
  refine E.m (h.dup dX1_makeOctet_1 rfl) ?_
  refine E.m (h.get h0 lf_RX1_28 dX1_makeOctet_2 fv_1_1) ?_
  refine E.m (h.sipush (v := (1000 : Int32)) dX1_makeOctet_5 (by decide)) ?_
  refine E.m (h.isub dX1_makeOctet_8) ?_
  refine E.m (h.puti h0 lp_RX1_28 rfl dX1_makeOctet_9) ?_
  refine E.nmM (fun M1 => ?_)
  refine E.m (h.aload_n 0 dX1_makeOctet_12 rfl) ?_
  refine E.m (h.dup dX1_makeOctet_13 rfl) ?_
  refine E.m (h.get h0 lf_RX1_31 dX1_makeOctet_14 fv_1_2) ?_
  refine E.m (h.iconst (v := (1 : Int32)) dX1_makeOctet_17 (by decide)) ?_
  refine E.m (h.iadd dX1_makeOctet_18) ?_
  refine E.m (h.puti h0 lp_RX1_31 rfl dX1_makeOctet_19) ?_
  refine E.nmM (fun M2 => ?_)
  refine E.m (h.aload_n 0 dX1_makeOctet_22 rfl) ?_
  refine E.m (h.get h0 lf_RX1_31 dX1_makeOctet_23 fv_1_2) ?_
  refine E.m (h.aload_n 1 dX1_makeOctet_26 rfl) ?_
  refine E.m (h.get h1 lf_RX1_62 dX1_makeOctet_27 fv_3_0) ?_
  refine E.bnd (fun u3 M4 => w M4 33 [(0, .ref t), (1, .ref r1_), (2, .int x2_)] [.int u3]) (fun u3 M4 hf k => h.callSN (As := [.int (M2.1 t 2), .int (M2.1 r1_ 0)]) (rest := []) (c_X10_mod hW hf) lm_X10_mod ls_m_X10_mod 14 rfl rfl rfl (Nat.le_of_ble_eq_true rfl) (by decide) dX1_makeOctet_30 rfl k) (fun u3 M4 => ?_)
  refine E.join1 (fun M5 => w M5 42 [(0, .ref t), (1, .ref r1_), (2, .int x2_)] []) (fun M5 => ?_) (fun J42 hJ42 => ?_)
  · exact E.some (ret_v hr dX1_makeOctet_42)
  refine E.br (fun k1 k2 => h.if_ne (tgt := 42) dX1_makeOctet_33 (by decide) k2 k1) ?_ ?_
  · refine E.m (h.aload_n 0 dX1_makeOctet_36 rfl) ?_
    refine E.m (h.aload_n 1 dX1_makeOctet_37 rfl) ?_
    refine E.m (h.iload_n 2 dX1_makeOctet_38 rfl) ?_
    refine E.bnd (fun _ M7 => w M7 42 [(0, .ref t), (1, .ref r1_), (2, .int x2_)] []) (fun _ M7 hf k => h.callV (As := [.ref r1_, .int x2_]) (rest := []) (c_X1_send hW h0 h1 hf) lm_X1_send lv_m_X1_send ll_RX1_69 h0 lc_1 rfl rfl (Nat.le_of_ble_eq_true rfl) (by decide) dX1_makeOctet_39 rfl k) (fun _ M7 => ?_)
    exact hJ42 _
  · exact hJ42 _
def f_X1_moveFlying (t : Nat) (x1_ : Int32) (x2_ : Int32) (M : Mem) : Option (Unit × Mem) :=
  bd (f_X10_at (t + 1) 40 x1_ M) (fun u1 M2 => bd (f_X10_put (t + 1) 40 x2_ u1 M2) (fun _ M4 => bd (f_X10_at (t + 2) 40 x1_ M4) (fun u5 M6 => bd (f_X10_put (t + 2) 40 x2_ u5 M6) (fun _ M8 => bd (f_X10_at (t + 3) 40 x1_ M8) (fun u9 M10 => bd (f_X10_put (t + 3) 40 x2_ u9 M10) (fun _ M12 => some ((), M12)))))))
set_option maxRecDepth 20000 in
theorem c_X1_moveFlying {G : Ctx} (hW : WFG G) {t : Nat} {x1_ : Int32} {x2_ : Int32} {M M' : Mem} (h0 : hs G t (0, 1)) (hf : f_X1_moveFlying t x1_ x2_ M = some ((), M')) : Ct G yX1_moveFlying cX1_moveFlying 3 none 1 22 [.ref t, .int x1_, .int x2_] M none M' := by
  refine ct_v hW (by decide +kernel) (Nat.le_of_ble_eq_true rfl) (fun w h hr => ?_)
  have h : Rb G cX1_moveFlying RX1 3 1 22 w := h
  refine (?_ : E (fun q => q = ((), M')) (f_X1_moveFlying t x1_ x2_ M) (w M 0 [(0, .ref t), (1, .int x1_), (2, .int x2_)] [])) _ hf rfl
  unfold f_X1_moveFlying
  refine E.m (h.aload_n 0 dX1_moveFlying_0 rfl) ?_
  refine E.m (h.get h0 lf_RX1_11 dX1_moveFlying_1 fv_1_9) ?_
  refine E.m (h.iload_n 2 dX1_moveFlying_4 rfl) ?_
  refine E.m (h.aload_n 0 dX1_moveFlying_5 rfl) ?_
  refine E.m (h.get h0 lf_RX1_11 dX1_moveFlying_6 fv_1_9) ?_
  refine E.m (h.iload_n 1 dX1_moveFlying_9 rfl) ?_
  refine E.bnd (fun u1 M2 => w M2 13 [(0, .ref t), (1, .int x1_), (2, .int x2_)] [.int u1, .int x2_, .ref (t + 1)]) (fun u1 M2 hf k => h.callSN (As := [.ref (t + 1), .int x1_]) (rest := [.int x2_, .ref (t + 1)]) (c_X10_at hW (hW.clo 2 h0 rfl) hf) lm_X10_at ls_m_X10_at 20 rfl rfl rfl (Nat.le_of_ble_eq_true rfl) (by decide) dX1_moveFlying_10 rfl k) (fun u1 M2 => ?_)
  refine E.bnd (fun _ M4 => w M4 16 [(0, .ref t), (1, .int x1_), (2, .int x2_)] []) (fun _ M4 hf k => h.callSN (As := [.ref (t + 1), .int x2_, .int u1]) (rest := []) (c_X10_put hW (hW.clo 2 h0 rfl) hf) lm_X10_put ls_m_X10_put 18 rfl rfl rfl (Nat.le_of_ble_eq_true rfl) (by decide) dX1_moveFlying_13 rfl k) (fun _ M4 => ?_)
  refine E.m (h.aload_n 0 dX1_moveFlying_16 rfl) ?_
  refine E.m (h.get h0 lf_RX1_15 dX1_moveFlying_17 fv_1_10) ?_
  refine E.m (h.iload_n 2 dX1_moveFlying_20 rfl) ?_
  refine E.m (h.aload_n 0 dX1_moveFlying_21 rfl) ?_
  refine E.m (h.get h0 lf_RX1_15 dX1_moveFlying_22 fv_1_10) ?_
  refine E.m (h.iload_n 1 dX1_moveFlying_25 rfl) ?_
  refine E.bnd (fun u5 M6 => w M6 29 [(0, .ref t), (1, .int x1_), (2, .int x2_)] [.int u5, .int x2_, .ref (t + 2)]) (fun u5 M6 hf k => h.callSN (As := [.ref (t + 2), .int x1_]) (rest := [.int x2_, .ref (t + 2)]) (c_X10_at hW (hW.clo 3 h0 rfl) hf) lm_X10_at ls_m_X10_at 20 rfl rfl rfl (Nat.le_of_ble_eq_true rfl) (by decide) dX1_moveFlying_26 rfl k) (fun u5 M6 => ?_)
  refine E.bnd (fun _ M8 => w M8 32 [(0, .ref t), (1, .int x1_), (2, .int x2_)] []) (fun _ M8 hf k => h.callSN (As := [.ref (t + 2), .int x2_, .int u5]) (rest := []) (c_X10_put hW (hW.clo 3 h0 rfl) hf) lm_X10_put ls_m_X10_put 18 rfl rfl rfl (Nat.le_of_ble_eq_true rfl) (by decide) dX1_moveFlying_29 rfl k) (fun _ M8 => ?_)
  refine E.m (h.aload_n 0 dX1_moveFlying_32 rfl) ?_
  refine E.m (h.get h0 lf_RX1_18 dX1_moveFlying_33 fv_1_11) ?_
  refine E.m (h.iload_n 2 dX1_moveFlying_36 rfl) ?_
  refine E.m (h.aload_n 0 dX1_moveFlying_37 rfl) ?_
  refine E.m (h.get h0 lf_RX1_18 dX1_moveFlying_38 fv_1_11) ?_
  refine E.m (h.iload_n 1 dX1_moveFlying_41 rfl) ?_
  refine E.bnd (fun u9 M10 => w M10 45 [(0, .ref t), (1, .int x1_), (2, .int x2_)] [.int u9, .int x2_, .ref (t + 3)]) (fun u9 M10 hf k => h.callSN (As := [.ref (t + 3), .int x1_]) (rest := [.int x2_, .ref (t + 3)]) (c_X10_at hW (hW.clo 4 h0 rfl) hf) lm_X10_at ls_m_X10_at 20 rfl rfl rfl (Nat.le_of_ble_eq_true rfl) (by decide) dX1_moveFlying_42 rfl k) (fun u9 M10 => ?_)
  refine E.bnd (fun _ M12 => w M12 48 [(0, .ref t), (1, .int x1_), (2, .int x2_)] []) (fun _ M12 hf k => h.callSN (As := [.ref (t + 3), .int x2_, .int u9]) (rest := []) (c_X10_put hW (hW.clo 4 h0 rfl) hf) lm_X10_put ls_m_X10_put 18 rfl rfl rfl (Nat.le_of_ble_eq_true rfl) (by decide) dX1_moveFlying_45 rfl k) (fun _ M12 => ?_)
  exact E.some (ret_v hr dX1_moveFlying_48)
def f_X4_copyFrom (t : Nat) (r1_ : Nat) (M : Mem) : Option (Unit × Mem) :=
  nm (wi M t 0 (M.1 r1_ 0)) (fun M1 => nm (wi M1 t 1 (M1.1 r1_ 1)) (fun M2 => nm (wi M2 t 2 (M2.1 r1_ 2)) (fun M3 => nm (wi M3 t 3 (M3.1 r1_ 3)) (fun M4 => nm (wi M4 t 4 (M4.1 r1_ 4)) (fun M5 => bd (f_X10_copyRow (r1_ + 1) 128 (t + 1) 128 M5) (fun _ M7 => bd (f_X10_copyRow (r1_ + 2) 128 (t + 2) 128 M7) (fun _ M9 => some ((), M9))))))))
set_option maxRecDepth 20000 in
theorem c_X4_copyFrom {G : Ctx} (hW : WFG G) {t : Nat} {r1_ : Nat} {M M' : Mem} (h0 : hs G t (0, 4)) (h1 : hs G r1_ (0, 4)) (hf : f_X4_copyFrom t r1_ M = some ((), M')) : Ct G yX4_copyFrom cX4_copyFrom 2 none 2 85 [.ref t, .ref r1_] M none M' := by
  refine ct_v hW (by decide +kernel) (Nat.le_of_ble_eq_true rfl) (fun w h hr => ?_)
  have h : Rb G cX4_copyFrom RX4 2 2 85 w := h
  refine (?_ : E (fun q => q = ((), M')) (f_X4_copyFrom t r1_ M) (w M 0 [(0, .ref t), (1, .ref r1_)] [])) _ hf rfl
  unfold f_X4_copyFrom
  refine E.m (h.aload_n 0 dX4_copyFrom_0 rfl) ?_
  refine E.m (h.aload_n 1 dX4_copyFrom_1 rfl) ?_
  refine E.m (h.get h1 lf_RX4_18 dX4_copyFrom_2 fv_4_0) ?_
  refine E.m (h.puti h0 lp_RX4_18 rfl dX4_copyFrom_5) ?_
  refine E.nmM (fun M1 => ?_)
  refine E.m (h.aload_n 0 dX4_copyFrom_8 rfl) ?_
  refine E.m (h.aload_n 1 dX4_copyFrom_9 rfl) ?_
  refine E.m (h.get h1 lf_RX4_22 dX4_copyFrom_10 fv_4_1) ?_
  refine E.m (h.puti h0 lp_RX4_22 rfl dX4_copyFrom_13) ?_
  refine E.nmM (fun M2 => ?_)
  refine E.m (h.aload_n 0 dX4_copyFrom_16 rfl) ?_
  refine E.m (h.aload_n 1 dX4_copyFrom_17 rfl) ?_
  refine E.m (h.get h1 lf_RX4_25 dX4_copyFrom_18 fv_4_2) ?_
  refine E.m (h.puti h0 lp_RX4_25 rfl dX4_copyFrom_21) ?_
  refine E.nmM (fun M3 => ?_)
  refine E.m (h.aload_n 0 dX4_copyFrom_24 rfl) ?_
  refine E.m (h.aload_n 1 dX4_copyFrom_25 rfl) ?_
  refine E.m (h.get h1 lf_RX4_28 dX4_copyFrom_26 fv_4_3) ?_
  refine E.m (h.puti h0 lp_RX4_28 rfl dX4_copyFrom_29) ?_
  refine E.nmM (fun M4 => ?_)
  refine E.m (h.aload_n 0 dX4_copyFrom_32 rfl) ?_
  refine E.m (h.aload_n 1 dX4_copyFrom_33 rfl) ?_
  refine E.m (h.get h1 lf_RX4_31 dX4_copyFrom_34 fv_4_4) ?_
  refine E.m (h.puti h0 lp_RX4_31 rfl dX4_copyFrom_37) ?_
  refine E.nmM (fun M5 => ?_)
  refine E.m (h.aload_n 1 dX4_copyFrom_40 rfl) ?_
  refine E.m (h.get h1 lf_RX4_9 dX4_copyFrom_41 fv_4_5) ?_
  refine E.m (h.aload_n 0 dX4_copyFrom_44 rfl) ?_
  refine E.m (h.get h0 lf_RX4_9 dX4_copyFrom_45 fv_4_5) ?_
  refine E.bnd (fun _ M7 => w M7 51 [(0, .ref t), (1, .ref r1_)] []) (fun _ M7 hf k => h.callSN (As := [.ref (r1_ + 1), .ref (t + 1)]) (rest := []) (c_X10_copyRow hW (hW.clo 12 h1 rfl) (hW.clo 12 h0 rfl) hf) lm_X10_copyRow ls_m_X10_copyRow 34 rfl rfl rfl (Nat.le_of_ble_eq_true rfl) (by decide) dX4_copyFrom_48 rfl k) (fun _ M7 => ?_)
  refine E.m (h.aload_n 1 dX4_copyFrom_51 rfl) ?_
  refine E.m (h.get h1 lf_RX4_15 dX4_copyFrom_52 fv_4_6) ?_
  refine E.m (h.aload_n 0 dX4_copyFrom_55 rfl) ?_
  refine E.m (h.get h0 lf_RX4_15 dX4_copyFrom_56 fv_4_6) ?_
  refine E.bnd (fun _ M9 => w M9 62 [(0, .ref t), (1, .ref r1_)] []) (fun _ M9 hf k => h.callSN (As := [.ref (r1_ + 2), .ref (t + 2)]) (rest := []) (c_X10_copyRow hW (hW.clo 13 h1 rfl) (hW.clo 13 h0 rfl) hf) lm_X10_copyRow ls_m_X10_copyRow 34 rfl rfl rfl (Nat.le_of_ble_eq_true rfl) (by decide) dX4_copyFrom_59 rfl k) (fun _ M9 => ?_)
  exact E.some (ret_v hr dX4_copyFrom_62)
def f_X5_copyFrom (t : Nat) (r1_ : Nat) (M : Mem) : Option (Unit × Mem) :=
  nm (wi M t 0 (M.1 r1_ 0)) (fun M1 => nm (wi M1 t 1 (M1.1 r1_ 1)) (fun M2 => nm (wi M2 t 2 (M2.1 r1_ 2)) (fun M3 => nm (wi M3 t 3 (M3.1 r1_ 3)) (fun M4 => nm (wi M4 t 4 (M4.1 r1_ 4)) (fun M5 => nm (wi M5 t 5 (M5.1 r1_ 5)) (fun M6 => nm (wi M6 t 6 (M6.1 r1_ 6)) (fun M7 => nm (wi M7 t 7 (M7.1 r1_ 7)) (fun M8 => nm (wi M8 t 8 (M8.1 r1_ 8)) (fun M9 => nm (wi M9 t 9 (M9.1 r1_ 9)) (fun M10 => bd (f_X0_copyFrom (t + 1) (r1_ + 1) M10) (fun _ M12 => bd (f_X4_copyFrom (t + 4) (r1_ + 4) M12) (fun _ M14 => some ((), M14)))))))))))))
set_option maxRecDepth 20000 in
theorem c_X5_copyFrom {G : Ctx} (hW : WFG G) {t : Nat} {r1_ : Nat} {M M' : Mem} (h0 : hs G t (0, 5)) (h1 : hs G r1_ (0, 5)) (hf : f_X5_copyFrom t r1_ M = some ((), M')) : Ct G yX5_copyFrom cX5_copyFrom 2 none 3 106 [.ref t, .ref r1_] M none M' := by
  refine ct_v hW (by decide +kernel) (Nat.le_of_ble_eq_true rfl) (fun w h hr => ?_)
  have h : Rb G cX5_copyFrom RX5 2 3 106 w := h
  refine (?_ : E (fun q => q = ((), M')) (f_X5_copyFrom t r1_ M) (w M 0 [(0, .ref t), (1, .ref r1_)] [])) _ hf rfl
  unfold f_X5_copyFrom
  refine E.m (h.aload_n 0 dX5_copyFrom_0 rfl) ?_
  refine E.m (h.aload_n 1 dX5_copyFrom_1 rfl) ?_
  refine E.m (h.get h1 lf_RX5_25 dX5_copyFrom_2 fv_5_0) ?_
  refine E.m (h.puti h0 lp_RX5_25 rfl dX5_copyFrom_5) ?_
  refine E.nmM (fun M1 => ?_)
  refine E.m (h.aload_n 0 dX5_copyFrom_8 rfl) ?_
  refine E.m (h.aload_n 1 dX5_copyFrom_9 rfl) ?_
  refine E.m (h.get h1 lf_RX5_34 dX5_copyFrom_10 fv_5_1) ?_
  refine E.m (h.puti h0 lp_RX5_34 rfl dX5_copyFrom_13) ?_
  refine E.nmM (fun M2 => ?_)
  refine E.m (h.aload_n 0 dX5_copyFrom_16 rfl) ?_
  refine E.m (h.aload_n 1 dX5_copyFrom_17 rfl) ?_
  refine E.m (h.get h1 lf_RX5_35 dX5_copyFrom_18 fv_5_2) ?_
  refine E.m (h.puti h0 lp_RX5_35 rfl dX5_copyFrom_21) ?_
  refine E.nmM (fun M3 => ?_)
  refine E.m (h.aload_n 0 dX5_copyFrom_24 rfl) ?_
  refine E.m (h.aload_n 1 dX5_copyFrom_25 rfl) ?_
  refine E.m (h.get h1 lf_RX5_41 dX5_copyFrom_26 fv_5_3) ?_
  refine E.m (h.puti h0 lp_RX5_41 rfl dX5_copyFrom_29) ?_
  refine E.nmM (fun M4 => ?_)
  refine E.m (h.aload_n 0 dX5_copyFrom_32 rfl) ?_
  refine E.m (h.aload_n 1 dX5_copyFrom_33 rfl) ?_
  refine E.m (h.get h1 lf_RX5_45 dX5_copyFrom_34 fv_5_4) ?_
  refine E.m (h.puti h0 lp_RX5_45 rfl dX5_copyFrom_37) ?_
  refine E.nmM (fun M5 => ?_)
  refine E.m (h.aload_n 0 dX5_copyFrom_40 rfl) ?_
  refine E.m (h.aload_n 1 dX5_copyFrom_41 rfl) ?_
  refine E.m (h.get h1 lf_RX5_56 dX5_copyFrom_42 fv_5_5) ?_
  refine E.m (h.puti h0 lp_RX5_56 rfl dX5_copyFrom_45) ?_
  refine E.nmM (fun M6 => ?_)
  refine E.m (h.aload_n 0 dX5_copyFrom_48 rfl) ?_
  refine E.m (h.aload_n 1 dX5_copyFrom_49 rfl) ?_
  refine E.m (h.get h1 lf_RX5_59 dX5_copyFrom_50 fv_5_6) ?_
  refine E.m (h.puti h0 lp_RX5_59 rfl dX5_copyFrom_53) ?_
  refine E.nmM (fun M7 => ?_)
  refine E.m (h.aload_n 0 dX5_copyFrom_56 rfl) ?_
  refine E.m (h.aload_n 1 dX5_copyFrom_57 rfl) ?_
  refine E.m (h.get h1 lf_RX5_62 dX5_copyFrom_58 fv_5_7) ?_
  refine E.m (h.puti h0 lp_RX5_62 rfl dX5_copyFrom_61) ?_
  refine E.nmM (fun M8 => ?_)
  refine E.m (h.aload_n 0 dX5_copyFrom_64 rfl) ?_
  refine E.m (h.aload_n 1 dX5_copyFrom_65 rfl) ?_
  refine E.m (h.get h1 lf_RX5_65 dX5_copyFrom_66 fv_5_8) ?_
  refine E.m (h.puti h0 lp_RX5_65 rfl dX5_copyFrom_69) ?_
  refine E.nmM (fun M9 => ?_)
  refine E.m (h.aload_n 0 dX5_copyFrom_72 rfl) ?_
  refine E.m (h.aload_n 1 dX5_copyFrom_73 rfl) ?_
  refine E.m (h.get h1 lf_RX5_49 dX5_copyFrom_74 fv_5_9) ?_
  refine E.m (h.puti h0 lp_RX5_49 rfl dX5_copyFrom_77) ?_
  refine E.nmM (fun M10 => ?_)
  refine E.m (h.aload_n 0 dX5_copyFrom_80 rfl) ?_
  refine E.m (h.get h0 lf_RX5_12 dX5_copyFrom_81 fv_5_10) ?_
  refine E.m (h.aload_n 1 dX5_copyFrom_84 rfl) ?_
  refine E.m (h.get h1 lf_RX5_12 dX5_copyFrom_85 fv_5_10) ?_
  refine E.bnd (fun _ M12 => w M12 91 [(0, .ref t), (1, .ref r1_)] []) (fun _ M12 hf k => h.callV (As := [.ref (r1_ + 1)]) (rest := []) (c_X0_copyFrom hW (hW.clo 14 h0 rfl) (hW.clo 14 h1 rfl) hf) lm_X0_copyFrom lv_m_X0_copyFrom ll_RX5_68 (hW.clo 14 h0 rfl) lc_0 rfl rfl (Nat.le_of_ble_eq_true rfl) (by decide) dX5_copyFrom_88 rfl k) (fun _ M12 => ?_)
  refine E.m (h.aload_n 0 dX5_copyFrom_91 rfl) ?_
  refine E.m (h.get h0 lf_RX5_21 dX5_copyFrom_92 fv_5_11) ?_
  refine E.m (h.aload_n 1 dX5_copyFrom_95 rfl) ?_
  refine E.m (h.get h1 lf_RX5_21 dX5_copyFrom_96 fv_5_11) ?_
  refine E.bnd (fun _ M14 => w M14 102 [(0, .ref t), (1, .ref r1_)] []) (fun _ M14 hf k => h.callV (As := [.ref (r1_ + 4)]) (rest := []) (c_X4_copyFrom hW (hW.clo 15 h0 rfl) (hW.clo 15 h1 rfl) hf) lm_X4_copyFrom lv_m_X4_copyFrom ll_RX5_72 (hW.clo 15 h0 rfl) lc_4 rfl rfl (Nat.le_of_ble_eq_true rfl) (by decide) dX5_copyFrom_99 rfl k) (fun _ M14 => ?_)
  exact E.some (ret_v hr dX5_copyFrom_102)
def f_X9_copyFrom (t : Nat) (r1_ : Nat) (M : Mem) : Option (Unit × Mem) :=
  nm (wi M t 0 (M.1 r1_ 0)) (fun M1 => bd (f_X1_copyFrom (t + 1) (r1_ + 1) M1) (fun _ M3 => bd (f_X5_copyFrom (t + 5) (r1_ + 5) M3) (fun _ M5 => some ((), M5))))
set_option maxRecDepth 20000 in
theorem c_X9_copyFrom {G : Ctx} (hW : WFG G) {t : Nat} {r1_ : Nat} {M M' : Mem} (h0 : hs G t (0, 9)) (h1 : hs G r1_ (0, 9)) (hf : f_X9_copyFrom t r1_ M = some ((), M')) : Ct G yX9_copyFrom cX9_copyFrom 2 none 4 127 [.ref t, .ref r1_] M none M' := by
  refine ct_v hW (by decide +kernel) (Nat.le_of_ble_eq_true rfl) (fun w h hr => ?_)
  have h : Rb G cX9_copyFrom RX9 2 4 127 w := h
  refine (?_ : E (fun q => q = ((), M')) (f_X9_copyFrom t r1_ M) (w M 0 [(0, .ref t), (1, .ref r1_)] [])) _ hf rfl
  unfold f_X9_copyFrom
  refine E.m (h.aload_n 0 dX9_copyFrom_0 rfl) ?_
  refine E.m (h.aload_n 1 dX9_copyFrom_1 rfl) ?_
  refine E.m (h.get h1 lf_RX9_25 dX9_copyFrom_2 fv_9_0) ?_
  refine E.m (h.puti h0 lp_RX9_25 rfl dX9_copyFrom_5) ?_
  refine E.nmM (fun M1 => ?_)
  refine E.m (h.aload_n 0 dX9_copyFrom_8 rfl) ?_
  refine E.m (h.get h0 lf_RX9_12 dX9_copyFrom_9 fv_9_1) ?_
  refine E.m (h.aload_n 1 dX9_copyFrom_12 rfl) ?_
  refine E.m (h.get h1 lf_RX9_12 dX9_copyFrom_13 fv_9_1) ?_
  refine E.bnd (fun _ M3 => w M3 19 [(0, .ref t), (1, .ref r1_)] []) (fun _ M3 hf k => h.callV (As := [.ref (r1_ + 1)]) (rest := []) (c_X1_copyFrom hW (hW.clo 32 h0 rfl) (hW.clo 32 h1 rfl) hf) lm_X1_copyFrom lv_m_X1_copyFrom ll_RX9_34 (hW.clo 32 h0 rfl) lc_1 rfl rfl (Nat.le_of_ble_eq_true rfl) (by decide) dX9_copyFrom_16 rfl k) (fun _ M3 => ?_)
  refine E.m (h.aload_n 0 dX9_copyFrom_19 rfl) ?_
  refine E.m (h.get h0 lf_RX9_21 dX9_copyFrom_20 fv_9_2) ?_
  refine E.m (h.aload_n 1 dX9_copyFrom_23 rfl) ?_
  refine E.m (h.get h1 lf_RX9_21 dX9_copyFrom_24 fv_9_2) ?_
  refine E.bnd (fun _ M5 => w M5 30 [(0, .ref t), (1, .ref r1_)] []) (fun _ M5 hf k => h.callV (As := [.ref (r1_ + 5)]) (rest := []) (c_X5_copyFrom hW (hW.clo 33 h0 rfl) (hW.clo 33 h1 rfl) hf) lm_X5_copyFrom lv_m_X5_copyFrom ll_RX9_38 (hW.clo 33 h0 rfl) lc_5 rfl rfl (Nat.le_of_ble_eq_true rfl) (by decide) dX9_copyFrom_27 rfl k) (fun _ M5 => ?_)
  exact E.some (ret_v hr dX9_copyFrom_30)
def l_X9_receiveDue_4 (t : Nat) (x1_ : Int32) (k1 : Int32) (k2 : Int32) (M3 : Mem) : Option ((Int32 × Int32 × Mem) ⊕ (Unit × Mem)) :=
  if (M3.1 (t + 1) 8) ≤ k2 then (nm (wi M3 (t + 1) 8 k1) (fun M4 => some (.inr ((), M4)))) else (bd (f_X10_at (t + 1 + 2) 40 k2 M3) (fun u5 M6 => jn2 (fun z7 M8 => nm (k2 + (1 : Int32)) (fun y9 => some (.inl (z7, y9, M8)))) (fun J132 => if u5 ≤ (M6.1 t 0) then (jn1 (fun M10 => bd (f_X10_at (t + 1 + 1) 40 k2 M10) (fun u11 M12 => bd (f_X10_at (t + 1 + 3) 40 k2 M12) (fun u13 M14 => bd (f_X0_take (t + 5 + 1) u11 u13 x1_ M14) (fun _ M16 => J132 k1 M16)))) (fun J99 => if (M6.1 (t + 5) 0) = 0 then (nm (wi M6 (t + 5) 0 (1 : Int32)) (fun M17 => bd (f_X10_at (t + 1 + 1) 40 k2 M17) (fun u18 M19 => bd (f_X10_at (t + 1 + 3) 40 k2 M19) (fun u20 M21 => bd (f_X0_startAt (t + 5 + 1) u18 u20 x1_ M21) (fun _ M23 => J99 M23))))) else (J99 M6))) else (bd (f_X1_moveFlying (t + 1) k2 k1 M6) (fun _ M25 => nm (k1 + (1 : Int32)) (fun y26 => J132 y26 M25))))))
def f_X9_receiveDue (t : Nat) (x1_ : Int32) (M : Mem) : Option (Unit × Mem) :=
  lop3 FU (l_X9_receiveDue_4 t x1_) (0 : Int32) (0 : Int32) M
set_option maxRecDepth 20000 in
theorem c_X9_receiveDue {G : Ctx} (hW : WFG G) {t : Nat} {x1_ : Int32} {M M' : Mem} (h0 : hs G t (0, 9)) (hf : f_X9_receiveDue t x1_ M = some ((), M')) : Ct G yX9_receiveDue cX9_receiveDue 4 none 3 69 [.ref t, .int x1_] M none M' := by
  refine ct_v hW (by decide +kernel) (Nat.le_of_ble_eq_true rfl) (fun w h hr => ?_)
  have h : Rb G cX9_receiveDue RX9 4 3 69 w := h
  refine (?_ : E (fun q => q = ((), M')) (f_X9_receiveDue t x1_ M) (w M 0 [(0, .ref t), (1, .int x1_)] [])) _ hf rfl
  unfold f_X9_receiveDue
  refine E.m (h.iconst (v := (0 : Int32)) dX9_receiveDue_0 (by decide)) ?_
  refine E.m (h.istore_n dX9_receiveDue_1 (by decide) rfl) ?_
  refine E.m (h.iconst (v := (0 : Int32)) dX9_receiveDue_2 (by decide)) ?_
  refine E.m (h.istore_n dX9_receiveDue_3 (by decide) rfl) ?_
  refine E.m (h.sub [2, 3, 1, 0] rfl) ?_
  refine E.loop3 (fun k1 k2 M3 => w M3 4 [(0, .ref t), (1, .int x1_), (2, .int k1), (3, .int k2)] []) (fun k1 k2 M3 => ?_) _ _ _ _
  unfold l_X9_receiveDue_4
  refine E.m (h.iload_n 3 dX9_receiveDue_4 rfl) ?_
  refine E.m (h.aload_n 0 dX9_receiveDue_5 rfl) ?_
  refine E.m (h.get h0 lf_RX9_12 dX9_receiveDue_6 fv_9_1) ?_
  refine E.m (h.get (hW.clo 32 h0 rfl) lf_RX9_73 dX9_receiveDue_9 fv_1_8) ?_
  refine E.br (fun k1 k2 => h.icmp_ge (tgt := 138) dX9_receiveDue_12 (by decide) k1 k2) ?_ ?_
  · refine E.m (h.aload_n 0 dX9_receiveDue_138 rfl) ?_
    refine E.m (h.get h0 lf_RX9_12 dX9_receiveDue_139 fv_9_1) ?_
    refine E.m (h.iload_n 2 dX9_receiveDue_142 rfl) ?_
    refine E.m (h.puti (hW.clo 32 h0 rfl) lp_RX9_73 rfl dX9_receiveDue_143) ?_
    refine E.nmM (fun M4 => ?_)
    exact E.some (ret_v hr dX9_receiveDue_146)
  · refine E.m (h.aload_n 0 dX9_receiveDue_15 rfl) ?_
    refine E.m (h.get h0 lf_RX9_12 dX9_receiveDue_16 fv_9_1) ?_
    refine E.m (h.get (hW.clo 32 h0 rfl) lf_RX9_76 dX9_receiveDue_19 fv_1_10) ?_
    refine E.m (h.iload_n 3 dX9_receiveDue_22 rfl) ?_
    refine E.bnd (fun u5 M6 => w M6 26 [(0, .ref t), (1, .int x1_), (2, .int k1), (3, .int k2)] [.int u5]) (fun u5 M6 hf k => h.callSN (As := [.ref (t + 1 + 2), .int k2]) (rest := []) (c_X10_at hW (hW.clo 3 (hW.clo 32 h0 rfl) rfl) hf) lm_X10_at ls_m_X10_at 19 rfl rfl rfl (Nat.le_of_ble_eq_true rfl) (by decide) dX9_receiveDue_23 rfl k) (fun u5 M6 => ?_)
    refine E.m (h.aload_n 0 dX9_receiveDue_26 rfl) ?_
    refine E.m (h.get h0 lf_RX9_25 dX9_receiveDue_27 fv_9_0) ?_
    refine E.join2 (fun z7 M8 => w M8 132 [(0, .ref t), (1, .int x1_), (2, .int z7), (3, .int k2)] []) (fun z7 M8 => ?_) (fun J132 hJ132 => ?_)
    · refine E.m (h.iinc (v := (1 : Int32)) 3 dX9_receiveDue_132 rfl (by decide) (by decide) rfl) ?_
      refine E.nmL (fun y9 => ?_)
      refine E.m (h.goto (tgt := 4) dX9_receiveDue_135 (by decide)) ?_
      refine E.m (h.sub [1, 2, 3, 0] rfl) ?_
      exact E.some (fun q => q)
    refine E.br (fun k1 k2 => h.icmp_le (tgt := 48) dX9_receiveDue_30 (by decide) k1 k2) ?_ ?_
    · refine E.m (h.aload_n 0 dX9_receiveDue_48 rfl) ?_
      refine E.m (h.get h0 lf_RX9_21 dX9_receiveDue_49 fv_9_2) ?_
      refine E.m (h.get (hW.clo 33 h0 rfl) lf_RX9_88 dX9_receiveDue_52 fv_5_0) ?_
      refine E.join1 (fun M10 => w M10 99 [(0, .ref t), (1, .int x1_), (2, .int k1), (3, .int k2)] []) (fun M10 => ?_) (fun J99 hJ99 => ?_)
      · refine E.m (h.aload_n 0 dX9_receiveDue_99 rfl) ?_
        refine E.m (h.get h0 lf_RX9_21 dX9_receiveDue_100 fv_9_2) ?_
        refine E.m (h.get (hW.clo 33 h0 rfl) lf_RX9_91 dX9_receiveDue_103 fv_5_10) ?_
        refine E.m (h.aload_n 0 dX9_receiveDue_106 rfl) ?_
        refine E.m (h.get h0 lf_RX9_12 dX9_receiveDue_107 fv_9_1) ?_
        refine E.m (h.get (hW.clo 32 h0 rfl) lf_RX9_95 dX9_receiveDue_110 fv_1_9) ?_
        refine E.m (h.iload_n 3 dX9_receiveDue_113 rfl) ?_
        refine E.bnd (fun u11 M12 => w M12 117 [(0, .ref t), (1, .int x1_), (2, .int k1), (3, .int k2)] [.int u11, .ref (t + 5 + 1)]) (fun u11 M12 hf k => h.callSN (As := [.ref (t + 1 + 1), .int k2]) (rest := [.ref (t + 5 + 1)]) (c_X10_at hW (hW.clo 2 (hW.clo 32 h0 rfl) rfl) hf) lm_X10_at ls_m_X10_at 19 rfl rfl rfl (Nat.le_of_ble_eq_true rfl) (by decide) dX9_receiveDue_114 rfl k) (fun u11 M12 => ?_)
        refine E.m (h.aload_n 0 dX9_receiveDue_117 rfl) ?_
        refine E.m (h.get h0 lf_RX9_12 dX9_receiveDue_118 fv_9_1) ?_
        refine E.m (h.get (hW.clo 32 h0 rfl) lf_RX9_98 dX9_receiveDue_121 fv_1_11) ?_
        refine E.m (h.iload_n 3 dX9_receiveDue_124 rfl) ?_
        refine E.bnd (fun u13 M14 => w M14 128 [(0, .ref t), (1, .int x1_), (2, .int k1), (3, .int k2)] [.int u13, .int u11, .ref (t + 5 + 1)]) (fun u13 M14 hf k => h.callSN (As := [.ref (t + 1 + 3), .int k2]) (rest := [.int u11, .ref (t + 5 + 1)]) (c_X10_at hW (hW.clo 4 (hW.clo 32 h0 rfl) rfl) hf) lm_X10_at ls_m_X10_at 19 rfl rfl rfl (Nat.le_of_ble_eq_true rfl) (by decide) dX9_receiveDue_125 rfl k) (fun u13 M14 => ?_)
        refine E.m (h.iload_n 1 dX9_receiveDue_128 rfl) ?_
        refine E.bnd (fun _ M16 => w M16 132 [(0, .ref t), (1, .int x1_), (2, .int k1), (3, .int k2)] []) (fun _ M16 hf k => h.callV (As := [.int u11, .int u13, .int x1_]) (rest := []) (c_X0_take hW (hW.clo 14 (hW.clo 33 h0 rfl) rfl) hf) lm_X0_take lv_m_X0_take ll_RX9_107 (hW.clo 14 (hW.clo 33 h0 rfl) rfl) lc_0 rfl rfl (Nat.le_of_ble_eq_true rfl) (by decide) dX9_receiveDue_129 rfl k) (fun _ M16 => ?_)
        exact hJ132 _ _
      refine E.br (fun k1 k2 => h.if_ne (tgt := 99) dX9_receiveDue_55 (by decide) k2 k1) ?_ ?_
      · refine E.m (h.aload_n 0 dX9_receiveDue_58 rfl) ?_
        refine E.m (h.get h0 lf_RX9_21 dX9_receiveDue_59 fv_9_2) ?_
        refine E.m (h.iconst (v := (1 : Int32)) dX9_receiveDue_62 (by decide)) ?_
        refine E.m (h.puti (hW.clo 33 h0 rfl) lp_RX9_88 rfl dX9_receiveDue_63) ?_
        refine E.nmM (fun M17 => ?_)
        refine E.m (h.aload_n 0 dX9_receiveDue_66 rfl) ?_
        refine E.m (h.get h0 lf_RX9_21 dX9_receiveDue_67 fv_9_2) ?_
        refine E.m (h.get (hW.clo 33 h0 rfl) lf_RX9_91 dX9_receiveDue_70 fv_5_10) ?_
        refine E.m (h.aload_n 0 dX9_receiveDue_73 rfl) ?_
        refine E.m (h.get h0 lf_RX9_12 dX9_receiveDue_74 fv_9_1) ?_
        refine E.m (h.get (hW.clo 32 h0 rfl) lf_RX9_95 dX9_receiveDue_77 fv_1_9) ?_
        refine E.m (h.iload_n 3 dX9_receiveDue_80 rfl) ?_
        refine E.bnd (fun u18 M19 => w M19 84 [(0, .ref t), (1, .int x1_), (2, .int k1), (3, .int k2)] [.int u18, .ref (t + 5 + 1)]) (fun u18 M19 hf k => h.callSN (As := [.ref (t + 1 + 1), .int k2]) (rest := [.ref (t + 5 + 1)]) (c_X10_at hW (hW.clo 2 (hW.clo 32 h0 rfl) rfl) hf) lm_X10_at ls_m_X10_at 19 rfl rfl rfl (Nat.le_of_ble_eq_true rfl) (by decide) dX9_receiveDue_81 rfl k) (fun u18 M19 => ?_)
        refine E.m (h.aload_n 0 dX9_receiveDue_84 rfl) ?_
        refine E.m (h.get h0 lf_RX9_12 dX9_receiveDue_85 fv_9_1) ?_
        refine E.m (h.get (hW.clo 32 h0 rfl) lf_RX9_98 dX9_receiveDue_88 fv_1_11) ?_
        refine E.m (h.iload_n 3 dX9_receiveDue_91 rfl) ?_
        refine E.bnd (fun u20 M21 => w M21 95 [(0, .ref t), (1, .int x1_), (2, .int k1), (3, .int k2)] [.int u20, .int u18, .ref (t + 5 + 1)]) (fun u20 M21 hf k => h.callSN (As := [.ref (t + 1 + 3), .int k2]) (rest := [.int u18, .ref (t + 5 + 1)]) (c_X10_at hW (hW.clo 4 (hW.clo 32 h0 rfl) rfl) hf) lm_X10_at ls_m_X10_at 19 rfl rfl rfl (Nat.le_of_ble_eq_true rfl) (by decide) dX9_receiveDue_92 rfl k) (fun u20 M21 => ?_)
        refine E.m (h.iload_n 1 dX9_receiveDue_95 rfl) ?_
        refine E.bnd (fun _ M23 => w M23 99 [(0, .ref t), (1, .int x1_), (2, .int k1), (3, .int k2)] []) (fun _ M23 hf k => h.callV (As := [.int u18, .int u20, .int x1_]) (rest := []) (c_X0_startAt hW (hW.clo 14 (hW.clo 33 h0 rfl) rfl) hf) lm_X0_startAt lv_m_X0_startAt ll_RX9_101 (hW.clo 14 (hW.clo 33 h0 rfl) rfl) lc_0 rfl rfl (Nat.le_of_ble_eq_true rfl) (by decide) dX9_receiveDue_96 rfl k) (fun _ M23 => ?_)
        exact hJ99 _
      · exact hJ99 _
    · refine E.m (h.aload_n 0 dX9_receiveDue_33 rfl) ?_
      refine E.m (h.get h0 lf_RX9_12 dX9_receiveDue_34 fv_9_1) ?_
      refine E.m (h.iload_n 3 dX9_receiveDue_37 rfl) ?_
      refine E.m (h.iload_n 2 dX9_receiveDue_38 rfl) ?_
      refine E.bnd (fun _ M25 => w M25 42 [(0, .ref t), (1, .int x1_), (2, .int k1), (3, .int k2)] []) (fun _ M25 hf k => h.callV (As := [.int k2, .int k1]) (rest := []) (c_X1_moveFlying hW (hW.clo 32 h0 rfl) hf) lm_X1_moveFlying lv_m_X1_moveFlying ll_RX9_84 (hW.clo 32 h0 rfl) lc_1 rfl rfl (Nat.le_of_ble_eq_true rfl) (by decide) dX9_receiveDue_39 rfl k) (fun _ M25 => ?_)
      refine E.m (h.iinc (v := (1 : Int32)) 2 dX9_receiveDue_42 rfl (by decide) (by decide) rfl) ?_
      refine E.nmL (fun y26 => ?_)
      refine E.m (h.goto (tgt := 132) dX9_receiveDue_45 (by decide)) ?_
      refine E.m (h.sub [1, 2, 0, 3] rfl) ?_
      exact hJ132 _ _
def f_X5_level (t : Nat) (x1_ : Int32) (M : Mem) : Option (Int32 × Mem) :=
  jn2 (fun z1 M2 => some (z1, M2)) (fun J19 => if (M.1 t 0) = 0 then (J19 (0 : Int32) M) else (bd (f_X0_level (t + 1) x1_ M) (fun u3 M4 => J19 u3 M4)))
set_option maxRecDepth 20000 in
theorem c_X5_level {G : Ctx} (hW : WFG G) {t : Nat} {x1_ : Int32} {M M' : Mem} {r : Int32} (h0 : hs G t (0, 5)) (hf : f_X5_level t x1_ M = some (r, M')) : Ct G yX5_level cX5_level 2 (some .int) 2 42 [.ref t, .int x1_] M (some (.int r)) M' := by
  refine ct_i hW (by decide +kernel) (Nat.le_of_ble_eq_true rfl) (fun w h hr => ?_)
  have h : Rb G cX5_level RX5 2 2 42 w := h
  refine (?_ : E (fun q => q = (r, M')) (f_X5_level t x1_ M) (w M 0 [(0, .ref t), (1, .int x1_)] [])) _ hf rfl
  unfold f_X5_level
  refine E.m (h.aload_n 0 dX5_level_0 rfl) ?_
  refine E.m (h.get h0 lf_RX5_25 dX5_level_1 fv_5_0) ?_
  refine E.join2 (fun z1 M2 => w M2 19 [(0, .ref t), (1, .int x1_)] [.int z1]) (fun z1 M2 => ?_) (fun J19 hJ19 => ?_)
  · exact E.some (ret_i hr rfl dX5_level_19)
  refine E.br (fun k1 k2 => h.if_ne (tgt := 11) dX5_level_4 (by decide) k2 k1) ?_ ?_
  · refine E.m (h.iconst (v := (0 : Int32)) dX5_level_7 (by decide)) ?_
    refine E.m (h.goto (tgt := 19) dX5_level_8 (by decide)) ?_
    exact hJ19 _ _
  · refine E.m (h.aload_n 0 dX5_level_11 rfl) ?_
    refine E.m (h.get h0 lf_RX5_12 dX5_level_12 fv_5_10) ?_
    refine E.m (h.iload_n 1 dX5_level_15 rfl) ?_
    refine E.bnd (fun u3 M4 => w M4 19 [(0, .ref t), (1, .int x1_)] [.int u3]) (fun u3 M4 hf k => h.callV (As := [.int x1_]) (rest := []) (c_X0_level hW (hW.clo 14 h0 rfl) hf) lm_X0_level lv_m_X0_level ll_RX5_75 (hW.clo 14 h0 rfl) lc_0 rfl rfl (Nat.le_of_ble_eq_true rfl) (by decide) dX5_level_16 rfl k) (fun u3 M4 => ?_)
    exact hJ19 _ _
def f_X5_clearLoop (t : Nat) (M : Mem) : Option (Unit × Mem) :=
  nm (wi M t 5 (0 : Int32)) (fun M1 => nm (wi M1 t 6 (0 : Int32)) (fun M2 => nm (wi M2 t 7 (0 : Int32)) (fun M3 => nm (wi M3 t 8 (0 : Int32)) (fun M4 => some ((), M4)))))
set_option maxRecDepth 20000 in
theorem c_X5_clearLoop {G : Ctx} (hW : WFG G) {t : Nat} {M M' : Mem} (h0 : hs G t (0, 5)) (hf : f_X5_clearLoop t M = some ((), M')) : Ct G yX5_clearLoop cX5_clearLoop 1 none 0 0 [.ref t] M none M' := by
  refine ct_v hW (by decide +kernel) (Nat.le_of_ble_eq_true rfl) (fun w h hr => ?_)
  have h : Rb G cX5_clearLoop RX5 1 0 0 w := h
  refine (?_ : E (fun q => q = ((), M')) (f_X5_clearLoop t M) (w M 0 [(0, .ref t)] [])) _ hf rfl
  unfold f_X5_clearLoop
  refine E.m (h.aload_n 0 dX5_clearLoop_0 rfl) ?_
  refine E.m (h.iconst (v := (0 : Int32)) dX5_clearLoop_1 (by decide)) ?_
  refine E.m (h.puti h0 lp_RX5_56 rfl dX5_clearLoop_2) ?_
  refine E.nmM (fun M1 => ?_)
  refine E.m (h.aload_n 0 dX5_clearLoop_5 rfl) ?_
  refine E.m (h.iconst (v := (0 : Int32)) dX5_clearLoop_6 (by decide)) ?_
  refine E.m (h.puti h0 lp_RX5_59 rfl dX5_clearLoop_7) ?_
  refine E.nmM (fun M2 => ?_)
  refine E.m (h.aload_n 0 dX5_clearLoop_10 rfl) ?_
  refine E.m (h.iconst (v := (0 : Int32)) dX5_clearLoop_11 (by decide)) ?_
  refine E.m (h.puti h0 lp_RX5_62 rfl dX5_clearLoop_12) ?_
  refine E.nmM (fun M3 => ?_)
  refine E.m (h.aload_n 0 dX5_clearLoop_15 rfl) ?_
  refine E.m (h.iconst (v := (0 : Int32)) dX5_clearLoop_16 (by decide)) ?_
  refine E.m (h.puti h0 lp_RX5_65 rfl dX5_clearLoop_17) ?_
  refine E.nmM (fun M4 => ?_)
  exact E.some (ret_v hr dX5_clearLoop_20)
def f_X4_addSample (t : Nat) (x1_ : Int32) (M : Mem) : Option (Unit × Mem) :=
  bd (f_X10_mod (M.1 t 4) (128 : Int32) M) (fun u1 M2 => bd (f_X10_put (t + 2) 128 u1 x1_ M2) (fun _ M4 => nm (wi M4 t 4 ((M4.1 t 4) + (1 : Int32))) (fun M5 => some ((), M5))))
set_option maxRecDepth 20000 in
theorem c_X4_addSample {G : Ctx} (hW : WFG G) {t : Nat} {x1_ : Int32} {M M' : Mem} (h0 : hs G t (0, 4)) (hf : f_X4_addSample t x1_ M = some ((), M')) : Ct G yX4_addSample cX4_addSample 2 none 2 43 [.ref t, .int x1_] M none M' := by
  refine ct_v hW (by decide +kernel) (Nat.le_of_ble_eq_true rfl) (fun w h hr => ?_)
  have h : Rb G cX4_addSample RX4 2 2 43 w := h
  refine (?_ : E (fun q => q = ((), M')) (f_X4_addSample t x1_ M) (w M 0 [(0, .ref t), (1, .int x1_)] [])) _ hf rfl
  unfold f_X4_addSample
  refine E.m (h.aload_n 0 dX4_addSample_0 rfl) ?_
  refine E.m (h.get h0 lf_RX4_15 dX4_addSample_1 fv_4_6) ?_
  refine E.m (h.aload_n 0 dX4_addSample_4 rfl) ?_
  refine E.m (h.get h0 lf_RX4_31 dX4_addSample_5 fv_4_4) ?_
  refine E.m (h.sipush (v := (128 : Int32)) dX4_addSample_8 (by decide)) ?_
  refine E.bnd (fun u1 M2 => w M2 14 [(0, .ref t), (1, .int x1_)] [.int u1, .ref (t + 2)]) (fun u1 M2 hf k => h.callSN (As := [.int (M.1 t 4), .int (128 : Int32)]) (rest := [.ref (t + 2)]) (c_X10_mod hW hf) lm_X10_mod ls_m_X10_mod 26 rfl rfl rfl (Nat.le_of_ble_eq_true rfl) (by decide) dX4_addSample_11 rfl k) (fun u1 M2 => ?_)
  refine E.m (h.iload_n 1 dX4_addSample_14 rfl) ?_
  refine E.bnd (fun _ M4 => w M4 18 [(0, .ref t), (1, .int x1_)] []) (fun _ M4 hf k => h.callSN (As := [.ref (t + 2), .int u1, .int x1_]) (rest := []) (c_X10_put hW (hW.clo 13 h0 rfl) hf) lm_X10_put ls_m_X10_put 27 rfl rfl rfl (Nat.le_of_ble_eq_true rfl) (by decide) dX4_addSample_15 rfl k) (fun _ M4 => ?_)
  refine E.m (h.aload_n 0 dX4_addSample_18 rfl) ?_
  refine E.m (h.dup dX4_addSample_19 rfl) ?_
  refine E.m (h.get h0 lf_RX4_31 dX4_addSample_20 fv_4_4) ?_
  refine E.m (h.iconst (v := (1 : Int32)) dX4_addSample_23 (by decide)) ?_
  refine E.m (h.iadd dX4_addSample_24) ?_
  refine E.m (h.puti h0 lp_RX4_31 rfl dX4_addSample_25) ?_
  refine E.nmM (fun M5 => ?_)
  exact E.some (ret_v hr dX4_addSample_28)
def f_X5_steer (t : Nat) (r1_ : Nat) (x2_ : Int32) (M : Mem) : Option (Unit × Mem) :=
  bd (f_X5_level t (M.1 r1_ 0) M) (fun u1 M2 => jn1 (fun M3 => jn1 (fun M4 => some ((), M4)) (fun J125 => if (M3.1 t 0) = (2 : Int32) then (bd (f_X10_mod x2_ (M3.1 r1_ 4) M3) (fun u5 M6 => if u5 = 0 then (nm (u1 - (M6.1 t 1)) (fun y7 => bd (f_X10_within ((M6.1 t 6) + ((M6.1 t 4) * y7)) (-3200 : Int32) (3200 : Int32) M6) (fun u8 M9 => nm (wi M9 t 6 u8) (fun M10 => bd (f_X10_within ((((M10.1 t 3) * y7) + (M10.1 t 6)) / (16 : Int32)) (-200 : Int32) (200 : Int32) M10) (fun u11 M12 => nm (wi M12 t 7 u11) (fun M13 => bd (f_X4_addSample (t + 4) (M13.1 t 8) M13) (fun _ M15 => J125 M15))))))) else (J125 M6))) else (J125 M3))) (fun J34 => if (M2.1 t 0) = (1 : Int32) then (if u1 < (M2.1 t 1) then (J34 M2) else (nm (wi M2 t 0 (2 : Int32)) (fun M16 => bd (f_X5_clearLoop t M16) (fun _ M18 => J34 M18)))) else (J34 M2)))
set_option maxRecDepth 20000 in
theorem c_X5_steer {G : Ctx} (hW : WFG G) {t : Nat} {r1_ : Nat} {x2_ : Int32} {M M' : Mem} (h0 : hs G t (0, 5)) (h1 : hs G r1_ (0, 3)) (hf : f_X5_steer t r1_ x2_ M = some ((), M')) : Ct G yX5_steer cX5_steer 5 none 3 64 [.ref t, .ref r1_, .int x2_] M none M' := by
  refine ct_v hW (by decide +kernel) (Nat.le_of_ble_eq_true rfl) (fun w h hr => ?_)
  have h : Rb G cX5_steer RX5 5 3 64 w := h
  refine (?_ : E (fun q => q = ((), M')) (f_X5_steer t r1_ x2_ M) (w M 0 [(0, .ref t), (1, .ref r1_), (2, .int x2_)] [])) _ hf rfl
  unfold f_X5_steer
  refine E.m (h.aload_n 0 dX5_steer_0 rfl) ?_
  refine E.m (h.aload_n 1 dX5_steer_1 rfl) ?_
  refine E.m (h.get h1 lf_RX5_90 dX5_steer_2 fv_3_0) ?_
  refine E.bnd (fun u1 M2 => w M2 8 [(0, .ref t), (1, .ref r1_), (2, .int x2_)] [.int u1]) (fun u1 M2 hf k => h.callV (As := [.int (M.1 r1_ 0)]) (rest := []) (c_X5_level hW h0 hf) lm_X5_level lv_m_X5_level ll_RX5_93 h0 lc_5 rfl rfl (Nat.le_of_ble_eq_true rfl) (by decide) dX5_steer_5 rfl k) (fun u1 M2 => ?_)
  refine E.m (h.istore_n dX5_steer_8 (by decide) rfl) ?_
  refine E.m (h.aload_n 1 dX5_steer_9 rfl) ?_
  refine E.m (h.get h0 lf_RX5_25 dX5_steer_10 fv_5_0) ?_
  refine E.m (h.iconst (v := (1 : Int32)) dX5_steer_13 (by decide)) ?_
  refine E.join1 (fun M3 => w M3 34 [(0, .ref t), (1, .ref r1_), (2, .int x2_), (3, .int u1)] []) (fun M3 => ?_) (fun J34 hJ34 => ?_)
  · refine E.m (h.aload_n 0 dX5_steer_34 rfl) ?_
    refine E.m (h.get h0 lf_RX5_25 dX5_steer_35 fv_5_0) ?_
    refine E.m (h.iconst (v := (2 : Int32)) dX5_steer_38 (by decide)) ?_
    refine E.join1 (fun M4 => w M4 125 [(0, .ref t), (1, .ref r1_), (2, .int x2_), (3, .int u1)] []) (fun M4 => ?_) (fun J125 hJ125 => ?_)
    · exact E.some (ret_v hr dX5_steer_125)
    refine E.br (fun k1 k2 => h.icmp_ne (tgt := 125) dX5_steer_39 (by decide) k2 k1) ?_ ?_
    · refine E.m (h.iload_n 2 dX5_steer_42 rfl) ?_
      refine E.m (h.aload_n 1 dX5_steer_43 rfl) ?_
      refine E.m (h.get h1 lf_RX5_94 dX5_steer_44 fv_3_4) ?_
      refine E.bnd (fun u5 M6 => w M6 50 [(0, .ref t), (1, .ref r1_), (2, .int x2_), (3, .int u1)] [.int u5]) (fun u5 M6 hf k => h.callSN (As := [.int x2_, .int (M3.1 r1_ 4)]) (rest := []) (c_X10_mod hW hf) lm_X10_mod ls_m_X10_mod 24 rfl rfl rfl (Nat.le_of_ble_eq_true rfl) (by decide) dX5_steer_47 rfl k) (fun u5 M6 => ?_)
      refine E.br (fun k1 k2 => h.if_ne (tgt := 125) dX5_steer_50 (by decide) k2 k1) ?_ ?_
      · refine E.m (h.iload_n 3 dX5_steer_53 rfl) ?_
        refine E.m (h.aload_n 0 dX5_steer_54 rfl) ?_
        refine E.m (h.get h0 lf_RX5_34 dX5_steer_55 fv_5_1) ?_
        refine E.m (h.isub dX5_steer_58) ?_
        refine E.m (h.istore dX5_steer_59 (by decide) rfl) ?_
        refine E.nmL (fun y7 => ?_)
        refine E.m (h.aload_n 1 dX5_steer_61 rfl) ?_
        refine E.m (h.aload_n 1 dX5_steer_62 rfl) ?_
        refine E.m (h.get h0 lf_RX5_59 dX5_steer_63 fv_5_6) ?_
        refine E.m (h.aload_n 1 dX5_steer_66 rfl) ?_
        refine E.m (h.get h0 lf_RX5_45 dX5_steer_67 fv_5_4) ?_
        refine E.m (h.iload 0 dX5_steer_70 rfl) ?_
        refine E.m (h.imul dX5_steer_72) ?_
        refine E.m (h.iadd dX5_steer_73) ?_
        refine E.m (h.sipush (v := (-3200 : Int32)) dX5_steer_74 (by decide)) ?_
        refine E.m (h.sipush (v := (3200 : Int32)) dX5_steer_77 (by decide)) ?_
        refine E.bnd (fun u8 M9 => w M9 83 [(4, .int y7), (0, .ref t), (1, .ref r1_), (2, .int x2_), (3, .int u1)] [.int u8, .ref t]) (fun u8 M9 hf k => h.callSN (As := [.int ((M6.1 t 6) + ((M6.1 t 4) * y7)), .int (-3200 : Int32), .int (3200 : Int32)]) (rest := [.ref t]) (c_X10_within hW hf) lm_X10_within ls_m_X10_within 25 rfl rfl rfl (Nat.le_of_ble_eq_true rfl) (by decide) dX5_steer_80 rfl k) (fun u8 M9 => ?_)
        refine E.m (h.puti h0 lp_RX5_59 rfl dX5_steer_83) ?_
        refine E.nmM (fun M10 => ?_)
        refine E.m (h.aload_n 1 dX5_steer_86 rfl) ?_
        refine E.m (h.aload_n 1 dX5_steer_87 rfl) ?_
        refine E.m (h.get h0 lf_RX5_41 dX5_steer_88 fv_5_3) ?_
        refine E.m (h.iload 0 dX5_steer_91 rfl) ?_
        refine E.m (h.imul dX5_steer_93) ?_
        refine E.m (h.aload_n 1 dX5_steer_94 rfl) ?_
        refine E.m (h.get h0 lf_RX5_59 dX5_steer_95 fv_5_6) ?_
        refine E.m (h.iadd dX5_steer_98) ?_
        refine E.m (h.bipush (v := (16 : Int32)) dX5_steer_99 (by decide)) ?_
        refine E.m (h.idiv (by decide) dX5_steer_101) ?_
        refine E.m (h.sipush (v := (-200 : Int32)) dX5_steer_102 (by decide)) ?_
        refine E.m (h.sipush (v := (200 : Int32)) dX5_steer_105 (by decide)) ?_
        refine E.bnd (fun u11 M12 => w M12 111 [(4, .int y7), (0, .ref t), (1, .ref r1_), (2, .int x2_), (3, .int u1)] [.int u11, .ref t]) (fun u11 M12 hf k => h.callSN (As := [.int ((((M10.1 t 3) * y7) + (M10.1 t 6)) / (16 : Int32)), .int (-200 : Int32), .int (200 : Int32)]) (rest := [.ref t]) (c_X10_within hW hf) lm_X10_within ls_m_X10_within 25 rfl rfl rfl (Nat.le_of_ble_eq_true rfl) (by decide) dX5_steer_108 rfl k) (fun u11 M12 => ?_)
        refine E.m (h.puti h0 lp_RX5_62 rfl dX5_steer_111) ?_
        refine E.nmM (fun M13 => ?_)
        refine E.m (h.aload_n 1 dX5_steer_114 rfl) ?_
        refine E.m (h.get h0 lf_RX5_21 dX5_steer_115 fv_5_11) ?_
        refine E.m (h.aload_n 1 dX5_steer_118 rfl) ?_
        refine E.m (h.get h0 lf_RX5_65 dX5_steer_119 fv_5_8) ?_
        refine E.bnd (fun _ M15 => w M15 125 [(4, .int y7), (0, .ref t), (1, .ref r1_), (2, .int x2_), (3, .int u1)] []) (fun _ M15 hf k => h.callV (As := [.int (M13.1 t 8)]) (rest := []) (c_X4_addSample hW (hW.clo 15 h0 rfl) hf) lm_X4_addSample lv_m_X4_addSample ll_RX5_104 (hW.clo 15 h0 rfl) lc_4 rfl rfl (Nat.le_of_ble_eq_true rfl) (by decide) dX5_steer_122 rfl k) (fun _ M15 => ?_)
        refine E.m (h.sub [1, 2, 3, 4] rfl) ?_
        exact hJ125 _
      · exact hJ125 _
    · exact hJ125 _
  refine E.br (fun k1 k2 => h.icmp_ne (tgt := 34) dX5_steer_14 (by decide) k2 k1) ?_ ?_
  · refine E.m (h.iload_n 0 dX5_steer_17 rfl) ?_
    refine E.m (h.aload_n 1 dX5_steer_18 rfl) ?_
    refine E.m (h.get h0 lf_RX5_34 dX5_steer_19 fv_5_1) ?_
    refine E.br (fun k1 k2 => h.icmp_lt (tgt := 34) dX5_steer_22 (by decide) k1 k2) ?_ ?_
    · refine E.m (h.sub [1, 2, 3, 0] rfl) ?_
      exact hJ34 _
    · refine E.m (h.aload_n 1 dX5_steer_25 rfl) ?_
      refine E.m (h.iconst (v := (2 : Int32)) dX5_steer_26 (by decide)) ?_
      refine E.m (h.puti h0 lp_RX5_25 rfl dX5_steer_27) ?_
      refine E.nmM (fun M16 => ?_)
      refine E.m (h.aload_n 1 dX5_steer_30 rfl) ?_
      refine E.bnd (fun _ M18 => w M18 34 [(3, .int u1), (0, .ref t), (1, .ref r1_), (2, .int x2_)] []) (fun _ M18 hf k => h.callV (As := []) (rest := []) (c_X5_clearLoop hW h0 hf) lm_X5_clearLoop lv_m_X5_clearLoop ll_RX5_46 h0 lc_5 rfl rfl (Nat.le_of_ble_eq_true rfl) (by decide) dX5_steer_31 rfl k) (fun _ M18 => ?_)
      refine E.m (h.sub [1, 2, 3, 0] rfl) ?_
      exact hJ34 _
  · refine E.m (h.sub [1, 2, 3, 0] rfl) ?_
    exact hJ34 _
def f_X5_runClock (t : Nat) (x1_ : Int32) (M : Mem) : Option (Unit × Mem) :=
  jn1 (fun M1 => some ((), M1)) (fun J40 => if (M.1 t 0) = (2 : Int32) then (nm (wi M t 5 ((M.1 t 5) + ((1000 : Int32) + (M.1 t 7)))) (fun M2 => nm (wi M2 t 8 ((M2.1 t 8) + (x1_ - (M2.1 t 7)))) (fun M3 => J40 M3))) else (J40 M))
set_option maxRecDepth 20000 in
theorem c_X5_runClock {G : Ctx} (hW : WFG G) {t : Nat} {x1_ : Int32} {M M' : Mem} (h0 : hs G t (0, 5)) (hf : f_X5_runClock t x1_ M = some ((), M')) : Ct G yX5_runClock cX5_runClock 2 none 0 0 [.ref t, .int x1_] M none M' := by
  refine ct_v hW (by decide +kernel) (Nat.le_of_ble_eq_true rfl) (fun w h hr => ?_)
  have h : Rb G cX5_runClock RX5 2 0 0 w := h
  refine (?_ : E (fun q => q = ((), M')) (f_X5_runClock t x1_ M) (w M 0 [(0, .ref t), (1, .int x1_)] [])) _ hf rfl
  unfold f_X5_runClock
  refine E.m (h.aload_n 0 dX5_runClock_0 rfl) ?_
  refine E.m (h.get h0 lf_RX5_25 dX5_runClock_1 fv_5_0) ?_
  refine E.m (h.iconst (v := (2 : Int32)) dX5_runClock_4 (by decide)) ?_
  refine E.join1 (fun M1 => w M1 40 [(0, .ref t), (1, .int x1_)] []) (fun M1 => ?_) (fun J40 hJ40 => ?_)
  · exact E.some (ret_v hr dX5_runClock_40)
  refine E.br (fun k1 k2 => h.icmp_ne (tgt := 40) dX5_runClock_5 (by decide) k2 k1) ?_ ?_
  · refine E.m (h.aload_n 0 dX5_runClock_8 rfl) ?_
    refine E.m (h.dup dX5_runClock_9 rfl) ?_
    refine E.m (h.get h0 lf_RX5_56 dX5_runClock_10 fv_5_5) ?_
    refine E.m (h.sipush (v := (1000 : Int32)) dX5_runClock_13 (by decide)) ?_
    refine E.m (h.aload_n 0 dX5_runClock_16 rfl) ?_
    refine E.m (h.get h0 lf_RX5_62 dX5_runClock_17 fv_5_7) ?_
    refine E.m (h.iadd dX5_runClock_20) ?_
    refine E.m (h.iadd dX5_runClock_21) ?_
    refine E.m (h.puti h0 lp_RX5_56 rfl dX5_runClock_22) ?_
    refine E.nmM (fun M2 => ?_)
    refine E.m (h.aload_n 0 dX5_runClock_25 rfl) ?_
    refine E.m (h.dup dX5_runClock_26 rfl) ?_
    refine E.m (h.get h0 lf_RX5_65 dX5_runClock_27 fv_5_8) ?_
    refine E.m (h.iload_n 1 dX5_runClock_30 rfl) ?_
    refine E.m (h.aload_n 0 dX5_runClock_31 rfl) ?_
    refine E.m (h.get h0 lf_RX5_62 dX5_runClock_32 fv_5_7) ?_
    refine E.m (h.isub dX5_runClock_35) ?_
    refine E.m (h.iadd dX5_runClock_36) ?_
    refine E.m (h.puti h0 lp_RX5_65 rfl dX5_runClock_37) ?_
    refine E.nmM (fun M3 => ?_)
    exact hJ40 _
  · exact hJ40 _
def f_X5_isOctetDue (t : Nat) (M : Mem) : Option (Int32 × Mem) :=
  jn1 (fun z1 => gdp (z1 = 0 ∨ z1 = 1) (some (z1, M))) (fun J23 => jn0 (fun _ => J23 (0 : Int32)) (fun J22 => if (M.1 t 0) = (2 : Int32) then (if (M.1 t 5) < (1000 : Int32) then (J22 ()) else (J23 (1 : Int32))) else (J22 ())))
set_option maxRecDepth 20000 in
theorem c_X5_isOctetDue {G : Ctx} (hW : WFG G) {t : Nat} {M M' : Mem} {r : Int32} (h0 : hs G t (0, 5)) (hf : f_X5_isOctetDue t M = some (r, M')) : Ct G yX5_isOctetDue cX5_isOctetDue 1 (some .boolean) 0 0 [.ref t] M (some (.int r)) M' := by
  refine ct_i hW (by decide +kernel) (Nat.le_of_ble_eq_true rfl) (fun w h hr => ?_)
  have h : Rb G cX5_isOctetDue RX5 1 0 0 w := h
  refine (?_ : E (fun q => q = (r, M')) (f_X5_isOctetDue t M) (w M 0 [(0, .ref t)] [])) _ hf rfl
  unfold f_X5_isOctetDue
  refine E.m (h.aload_n 0 dX5_isOctetDue_0 rfl) ?_
  refine E.m (h.get h0 lf_RX5_25 dX5_isOctetDue_1 fv_5_0) ?_
  refine E.m (h.iconst (v := (2 : Int32)) dX5_isOctetDue_4 (by decide)) ?_
  refine E.join1 (fun z1 => w M 23 [(0, .ref t)] [.int z1]) (fun z1 => ?_) (fun J23 hJ23 => ?_)
  · refine E.gd (fun hc k => k hc) (fun hc => E.imp fun hc => ?_)
    exact E.some (ret_i hr (bl_n hc).1 dX5_isOctetDue_23)
  refine E.join0 (fun _ => w M 22 [(0, .ref t)] []) (fun _ => ?_) (fun J22 hJ22 => ?_)
  · refine E.m (h.iconst (v := (0 : Int32)) dX5_isOctetDue_22 (by decide)) ?_
    exact hJ23 _
  refine E.br (fun k1 k2 => h.icmp_ne (tgt := 22) dX5_isOctetDue_5 (by decide) k2 k1) ?_ ?_
  · refine E.m (h.aload_n 0 dX5_isOctetDue_8 rfl) ?_
    refine E.m (h.get h0 lf_RX5_56 dX5_isOctetDue_9 fv_5_5) ?_
    refine E.m (h.sipush (v := (1000 : Int32)) dX5_isOctetDue_12 (by decide)) ?_
    refine E.br (fun k1 k2 => h.icmp_lt (tgt := 22) dX5_isOctetDue_15 (by decide) k1 k2) ?_ ?_
    · exact hJ22 ()
    · refine E.m (h.iconst (v := (1 : Int32)) dX5_isOctetDue_18 (by decide)) ?_
      refine E.m (h.goto (tgt := 23) dX5_isOctetDue_19 (by decide)) ?_
      exact hJ23 _
  · exact hJ22 ()
def f_X4_octetsKept (t : Nat) (M : Mem) : Option (Int32 × Mem) :=
  bd (f_J9_min_7cf53 (M.1 t 0) (128 : Int32) M) (fun u1 M2 => some (u1, M2))
set_option maxRecDepth 20000 in
theorem c_X4_octetsKept {G : Ctx} (hW : WFG G) {t : Nat} {M M' : Mem} {r : Int32} (h0 : hs G t (0, 4)) (hf : f_X4_octetsKept t M = some (r, M')) : Ct G yX4_octetsKept cX4_octetsKept 1 (some .int) 1 21 [.ref t] M (some (.int r)) M' := by
  refine ct_i hW (by decide +kernel) (Nat.le_of_ble_eq_true rfl) (fun w h hr => ?_)
  have h : Rb G cX4_octetsKept RX4 1 1 21 w := h
  refine (?_ : E (fun q => q = (r, M')) (f_X4_octetsKept t M) (w M 0 [(0, .ref t)] [])) _ hf rfl
  unfold f_X4_octetsKept
  refine E.m (h.aload_n 0 dX4_octetsKept_0 rfl) ?_
  refine E.m (h.get h0 lf_RX4_18 dX4_octetsKept_1 fv_4_0) ?_
  refine E.m (h.sipush (v := (128 : Int32)) dX4_octetsKept_4 (by decide)) ?_
  refine E.bnd (fun u1 M2 => w M2 10 [(0, .ref t)] [.int u1]) (fun u1 M2 hf k => h.callS (As := [.int (M.1 t 0), .int (128 : Int32)]) (rest := []) (c_J9_min_7cf53 hW hf) lm_J9_min_7cf53 ls_m_J9_min_7cf53 ll_RX4_38 rfl rfl (Nat.le_of_ble_eq_true rfl) (by decide) dX4_octetsKept_7 rfl k) (fun u1 M2 => ?_)
  exact E.some (ret_i hr rfl dX4_octetsKept_10)
def f_X4_latest (t : Nat) (x1_ : Int32) (M : Mem) : Option (Int32 × Mem) :=
  bd (f_X4_octetsKept t M) (fun u1 M2 => jn2 (fun z3 M4 => some (z3, M4)) (fun J38 => if u1 ≤ x1_ then (J38 (126 : Int32) M2) else (bd (f_X10_mod (((M2.1 t 0) - (1 : Int32)) - x1_) (128 : Int32) M2) (fun u5 M6 => bd (f_X10_at (t + 1) 128 u5 M6) (fun u7 M8 => J38 (u7 &&& (255 : Int32)) M8)))))
set_option maxRecDepth 20000 in
theorem c_X4_latest {G : Ctx} (hW : WFG G) {t : Nat} {x1_ : Int32} {M M' : Mem} {r : Int32} (h0 : hs G t (0, 4)) (hf : f_X4_latest t x1_ M = some (r, M')) : Ct G yX4_latest cX4_latest 2 (some .int) 2 43 [.ref t, .int x1_] M (some (.int r)) M' := by
  refine ct_i hW (by decide +kernel) (Nat.le_of_ble_eq_true rfl) (fun w h hr => ?_)
  have h : Rb G cX4_latest RX4 2 2 43 w := h
  refine (?_ : E (fun q => q = (r, M')) (f_X4_latest t x1_ M) (w M 0 [(0, .ref t), (1, .int x1_)] [])) _ hf rfl
  unfold f_X4_latest
  refine E.m (h.iload_n 1 dX4_latest_0 rfl) ?_
  refine E.m (h.aload_n 0 dX4_latest_1 rfl) ?_
  refine E.bnd (fun u1 M2 => w M2 5 [(0, .ref t), (1, .int x1_)] [.int u1, .int x1_]) (fun u1 M2 hf k => h.callV (As := []) (rest := [.int x1_]) (c_X4_octetsKept hW h0 hf) lm_X4_octetsKept lv_m_X4_octetsKept ll_RX4_51 h0 lc_4 rfl rfl (Nat.le_of_ble_eq_true rfl) (by decide) dX4_latest_2 rfl k) (fun u1 M2 => ?_)
  refine E.join2 (fun z3 M4 => w M4 38 [(0, .ref t), (1, .int x1_)] [.int z3]) (fun z3 M4 => ?_) (fun J38 hJ38 => ?_)
  · exact E.some (ret_i hr rfl dX4_latest_38)
  refine E.br (fun k1 k2 => h.icmp_ge (tgt := 36) dX4_latest_5 (by decide) k1 k2) ?_ ?_
  · refine E.m (h.bipush (v := (126 : Int32)) dX4_latest_36 (by decide)) ?_
    exact hJ38 _ _
  · refine E.m (h.aload_n 0 dX4_latest_8 rfl) ?_
    refine E.m (h.get h0 lf_RX4_9 dX4_latest_9 fv_4_5) ?_
    refine E.m (h.aload_n 0 dX4_latest_12 rfl) ?_
    refine E.m (h.get h0 lf_RX4_18 dX4_latest_13 fv_4_0) ?_
    refine E.m (h.iconst (v := (1 : Int32)) dX4_latest_16 (by decide)) ?_
    refine E.m (h.isub dX4_latest_17) ?_
    refine E.m (h.iload_n 1 dX4_latest_18 rfl) ?_
    refine E.m (h.isub dX4_latest_19) ?_
    refine E.m (h.sipush (v := (128 : Int32)) dX4_latest_20 (by decide)) ?_
    refine E.bnd (fun u5 M6 => w M6 26 [(0, .ref t), (1, .int x1_)] [.int u5, .ref (t + 1)]) (fun u5 M6 hf k => h.callSN (As := [.int (((M2.1 t 0) - (1 : Int32)) - x1_), .int (128 : Int32)]) (rest := [.ref (t + 1)]) (c_X10_mod hW hf) lm_X10_mod ls_m_X10_mod 26 rfl rfl rfl (Nat.le_of_ble_eq_true rfl) (by decide) dX4_latest_23 rfl k) (fun u5 M6 => ?_)
    refine E.bnd (fun u7 M8 => w M8 29 [(0, .ref t), (1, .int x1_)] [.int u7]) (fun u7 M8 hf k => h.callSN (As := [.ref (t + 1), .int u5]) (rest := []) (c_X10_at hW (hW.clo 12 h0 rfl) hf) lm_X10_at ls_m_X10_at 29 rfl rfl rfl (Nat.le_of_ble_eq_true rfl) (by decide) dX4_latest_26 rfl k) (fun u7 M8 => ?_)
    refine E.m (h.sipush (v := (255 : Int32)) dX4_latest_29 (by decide)) ?_
    refine E.m (h.iand dX4_latest_32) ?_
    refine E.m (h.goto (tgt := 38) dX4_latest_33 (by decide)) ?_
    exact hJ38 _ _
def f_X4_hear (t : Nat) (x1_ : Int32) (x2_ : Int32) (M : Mem) : Option (Unit × Mem) :=
  bd (f_X10_mod (M.1 t 0) (128 : Int32) M) (fun u1 M2 => jn1 (fun z3 => bd (f_X10_put (t + 1) 128 u1 z3 M2) (fun _ M5 => nm (wi M5 t 0 ((M5.1 t 0) + (1 : Int32))) (fun M6 => jn1 (fun z7 => nm (wi M6 t 1 ((M6.1 t 1) + z7)) (fun M8 => jn1 (fun z9 => nm (wi M8 t 3 z9) (fun M10 => some ((), M10))) (fun J73 => if x2_ = 0 then (J73 (0 : Int32)) else (J73 ((M8.1 t 3) + (1 : Int32)))))) (fun J54 => if x2_ = 0 then (J54 (0 : Int32)) else (J54 (1 : Int32)))))) (fun J27 => if x2_ = 0 then (J27 x1_) else (J27 (x1_ + (256 : Int32)))))
set_option maxRecDepth 20000 in
theorem c_X4_hear {G : Ctx} (hW : WFG G) {t : Nat} {x1_ : Int32} {x2_ : Int32} {M M' : Mem} (h0 : hs G t (0, 4)) (hf : f_X4_hear t x1_ x2_ M = some ((), M')) : Ct G yX4_hear cX4_hear 3 none 2 43 [.ref t, .int x1_, .int x2_] M none M' := by
  refine ct_v hW (by decide +kernel) (Nat.le_of_ble_eq_true rfl) (fun w h hr => ?_)
  have h : Rb G cX4_hear RX4 3 2 43 w := h
  refine (?_ : E (fun q => q = ((), M')) (f_X4_hear t x1_ x2_ M) (w M 0 [(0, .ref t), (1, .int x1_), (2, .int x2_)] [])) _ hf rfl
  unfold f_X4_hear
  refine E.m (h.aload_n 0 dX4_hear_0 rfl) ?_
  refine E.m (h.get h0 lf_RX4_9 dX4_hear_1 fv_4_5) ?_
  refine E.m (h.aload_n 0 dX4_hear_4 rfl) ?_
  refine E.m (h.get h0 lf_RX4_18 dX4_hear_5 fv_4_0) ?_
  refine E.m (h.sipush (v := (128 : Int32)) dX4_hear_8 (by decide)) ?_
  refine E.bnd (fun u1 M2 => w M2 14 [(0, .ref t), (1, .int x1_), (2, .int x2_)] [.int u1, .ref (t + 1)]) (fun u1 M2 hf k => h.callSN (As := [.int (M.1 t 0), .int (128 : Int32)]) (rest := [.ref (t + 1)]) (c_X10_mod hW hf) lm_X10_mod ls_m_X10_mod 26 rfl rfl rfl (Nat.le_of_ble_eq_true rfl) (by decide) dX4_hear_11 rfl k) (fun u1 M2 => ?_)
  refine E.m (h.iload_n 2 dX4_hear_14 rfl) ?_
  refine E.join1 (fun z3 => w M2 27 [(0, .ref t), (1, .int x1_), (2, .int x2_)] [.int z3, .int u1, .ref (t + 1)]) (fun z3 => ?_) (fun J27 hJ27 => ?_)
  · refine E.bnd (fun _ M5 => w M5 30 [(0, .ref t), (1, .int x1_), (2, .int x2_)] []) (fun _ M5 hf k => h.callSN (As := [.ref (t + 1), .int u1, .int z3]) (rest := []) (c_X10_put hW (hW.clo 12 h0 rfl) hf) lm_X10_put ls_m_X10_put 27 rfl rfl rfl (Nat.le_of_ble_eq_true rfl) (by decide) dX4_hear_27 rfl k) (fun _ M5 => ?_)
    refine E.m (h.aload_n 0 dX4_hear_30 rfl) ?_
    refine E.m (h.dup dX4_hear_31 rfl) ?_
    refine E.m (h.get h0 lf_RX4_18 dX4_hear_32 fv_4_0) ?_
    refine E.m (h.iconst (v := (1 : Int32)) dX4_hear_35 (by decide)) ?_
    refine E.m (h.iadd dX4_hear_36) ?_
    refine E.m (h.puti h0 lp_RX4_18 rfl dX4_hear_37) ?_
    refine E.nmM (fun M6 => ?_)
    refine E.m (h.aload_n 0 dX4_hear_40 rfl) ?_
    refine E.m (h.dup dX4_hear_41 rfl) ?_
    refine E.m (h.get h0 lf_RX4_22 dX4_hear_42 fv_4_1) ?_
    refine E.m (h.iload_n 2 dX4_hear_45 rfl) ?_
    refine E.join1 (fun z7 => w M6 54 [(0, .ref t), (1, .int x1_), (2, .int x2_)] [.int z7, .int (M6.1 t 1), .ref t]) (fun z7 => ?_) (fun J54 hJ54 => ?_)
    · refine E.m (h.iadd dX4_hear_54) ?_
      refine E.m (h.puti h0 lp_RX4_22 rfl dX4_hear_55) ?_
      refine E.nmM (fun M8 => ?_)
      refine E.m (h.aload_n 0 dX4_hear_58 rfl) ?_
      refine E.m (h.iload_n 2 dX4_hear_59 rfl) ?_
      refine E.join1 (fun z9 => w M8 73 [(0, .ref t), (1, .int x1_), (2, .int x2_)] [.int z9, .ref t]) (fun z9 => ?_) (fun J73 hJ73 => ?_)
      · refine E.m (h.puti h0 lp_RX4_28 rfl dX4_hear_73) ?_
        refine E.nmM (fun M10 => ?_)
        exact E.some (ret_v hr dX4_hear_76)
      refine E.br (fun k1 k2 => h.if_eq (tgt := 72) dX4_hear_60 (by decide) k1 k2) ?_ ?_
      · refine E.m (h.iconst (v := (0 : Int32)) dX4_hear_72 (by decide)) ?_
        exact hJ73 _
      · refine E.m (h.aload_n 0 dX4_hear_63 rfl) ?_
        refine E.m (h.get h0 lf_RX4_28 dX4_hear_64 fv_4_3) ?_
        refine E.m (h.iconst (v := (1 : Int32)) dX4_hear_67 (by decide)) ?_
        refine E.m (h.iadd dX4_hear_68) ?_
        refine E.m (h.goto (tgt := 73) dX4_hear_69 (by decide)) ?_
        exact hJ73 _
    refine E.br (fun k1 k2 => h.if_eq (tgt := 53) dX4_hear_46 (by decide) k1 k2) ?_ ?_
    · refine E.m (h.iconst (v := (0 : Int32)) dX4_hear_53 (by decide)) ?_
      exact hJ54 _
    · refine E.m (h.iconst (v := (1 : Int32)) dX4_hear_49 (by decide)) ?_
      refine E.m (h.goto (tgt := 54) dX4_hear_50 (by decide)) ?_
      exact hJ54 _
  refine E.br (fun k1 k2 => h.if_eq (tgt := 26) dX4_hear_15 (by decide) k1 k2) ?_ ?_
  · refine E.m (h.iload_n 1 dX4_hear_26 rfl) ?_
    exact hJ27 _
  · refine E.m (h.iload_n 1 dX4_hear_18 rfl) ?_
    refine E.m (h.sipush (v := (256 : Int32)) dX4_hear_19 (by decide)) ?_
    refine E.m (h.iadd dX4_hear_22) ?_
    refine E.m (h.goto (tgt := 27) dX4_hear_23 (by decide)) ?_
    exact hJ27 _
def f_X3_octet (t : Nat) (x1_ : Int32) (M : Mem) : Option (Int32 × Mem) :=
  bd (f_X10_mod x1_ (M.1 t 7) M) (fun u1 M2 => bd (f_X10_at (t + 1) 16 u1 M2) (fun u3 M4 => some ((u3 + x1_) &&& (255 : Int32), M4)))
set_option maxRecDepth 20000 in
theorem c_X3_octet {G : Ctx} (hW : WFG G) {t : Nat} {x1_ : Int32} {M M' : Mem} {r : Int32} (h0 : hs G t (0, 3)) (hf : f_X3_octet t x1_ M = some (r, M')) : Ct G yX3_octet cX3_octet 2 (some .int) 2 43 [.ref t, .int x1_] M (some (.int r)) M' := by
  refine ct_i hW (by decide +kernel) (Nat.le_of_ble_eq_true rfl) (fun w h hr => ?_)
  have h : Rb G cX3_octet RX3 2 2 43 w := h
  refine (?_ : E (fun q => q = (r, M')) (f_X3_octet t x1_ M) (w M 0 [(0, .ref t), (1, .int x1_)] [])) _ hf rfl
  unfold f_X3_octet
  refine E.m (h.aload_n 0 dX3_octet_0 rfl) ?_
  refine E.m (h.get h0 lf_RX3_7 dX3_octet_1 fv_3_8) ?_
  refine E.m (h.iload_n 1 dX3_octet_4 rfl) ?_
  refine E.m (h.aload_n 0 dX3_octet_5 rfl) ?_
  refine E.m (h.get h0 lf_RX3_48 dX3_octet_6 fv_3_7) ?_
  refine E.bnd (fun u1 M2 => w M2 12 [(0, .ref t), (1, .int x1_)] [.int u1, .ref (t + 1)]) (fun u1 M2 hf k => h.callSN (As := [.int x1_, .int (M.1 t 7)]) (rest := [.ref (t + 1)]) (c_X10_mod hW hf) lm_X10_mod ls_m_X10_mod 30 rfl rfl rfl (Nat.le_of_ble_eq_true rfl) (by decide) dX3_octet_9 rfl k) (fun u1 M2 => ?_)
  refine E.bnd (fun u3 M4 => w M4 15 [(0, .ref t), (1, .int x1_)] [.int u3]) (fun u3 M4 hf k => h.callSN (As := [.ref (t + 1), .int u1]) (rest := []) (c_X10_at hW (hW.clo 9 h0 rfl) hf) lm_X10_at ls_m_X10_at 31 rfl rfl rfl (Nat.le_of_ble_eq_true rfl) (by decide) dX3_octet_12 rfl k) (fun u3 M4 => ?_)
  refine E.m (h.iload_n 1 dX3_octet_15 rfl) ?_
  refine E.m (h.iadd dX3_octet_16) ?_
  refine E.m (h.sipush (v := (255 : Int32)) dX3_octet_17 (by decide)) ?_
  refine E.m (h.iand dX3_octet_20) ?_
  exact E.some (ret_i hr rfl dX3_octet_21)
def f_X5_playOctet (t : Nat) (r1_ : Nat) (M : Mem) : Option (Unit × Mem) :=
  nm (wi M t 5 ((M.1 t 5) - (1000 : Int32))) (fun M1 => bd (f_X0_indexHere (t + 1) (M1.1 r1_ 0) M1) (fun u2 M3 => jn2 (fun z4 M5 => nm (wi M5 (t + 1) 0 ((M5.1 (t + 1) 0) + (1 : Int32))) (fun M6 => jn1 (fun M7 => some ((), M7)) (fun J177 => if (M6.1 (t + 4) 3) < (64 : Int32) then (J177 M6) else (nm (wi M6 t 0 (0 : Int32)) (fun M8 => nm (wi M8 t 9 ((M8.1 t 9) + (1 : Int32))) (fun M9 => bd (f_X0_empty (t + 1) M9) (fun _ M11 => J177 M11))))))) (fun J130 => if u2 = (-1 : Int32) then (jn1 (fun z22 => jn2 (fun z23 M24 => bd (f_X4_hear (t + 4) z23 (1 : Int32) M24) (fun _ M26 => J130 z22 M26)) (fun J72 => if (M3.1 t 2) = (1 : Int32) then (J72 (126 : Int32) M3) else (bd (f_X4_latest (t + 4) z22 M3) (fun u27 M28 => J72 u27 M28)))) (fun J46 => if (M3.1 t 2) = 0 then (J46 (0 : Int32)) else (J46 ((M3.1 r1_ 6) - (1 : Int32))))) else (bd (f_X3_octet r1_ u2 M3) (fun u12 M13 => bd (f_X4_hear (t + 4) u12 (0 : Int32) M13) (fun _ M15 => bd (f_X0_indexDue (t + 1) (M15.1 r1_ 0) M15) (fun u16 M17 => bd (f_X3_octet r1_ u16 M17) (fun u18 M19 => jn1 (fun z20 => nm (wi M19 (t + 4) 2 ((M15.1 (t + 4) 2) + z20)) (fun M21 => J130 u12 M21)) (fun J126 => if u12 = u18 then (J126 (0 : Int32)) else (J126 (1 : Int32)))))))))))
set_option maxRecDepth 20000 in
theorem c_X5_playOctet {G : Ctx} (hW : WFG G) {t : Nat} {r1_ : Nat} {M M' : Mem} (h0 : hs G t (0, 5)) (h1 : hs G r1_ (0, 3)) (hf : f_X5_playOctet t r1_ M = some ((), M')) : Ct G yX5_playOctet cX5_playOctet 4 none 3 66 [.ref t, .ref r1_] M none M' := by
  refine ct_v hW (by decide +kernel) (Nat.le_of_ble_eq_true rfl) (fun w h hr => ?_)
  have h : Rb G cX5_playOctet RX5 4 3 66 w := h
  refine (?_ : E (fun q => q = ((), M')) (f_X5_playOctet t r1_ M) (w M 0 [(0, .ref t), (1, .ref r1_)] [])) _ hf rfl
  unfold f_X5_playOctet
  refine E.m (h.aload_n 0 dX5_playOctet_0 rfl) ?_
  refine E.m (h.dup dX5_playOctet_1 rfl) ?_
  refine E.m (h.get h0 lf_RX5_56 dX5_playOctet_2 fv_5_5) ?_
  refine E.m (h.sipush (v := (1000 : Int32)) dX5_playOctet_5 (by decide)) ?_
  refine E.m (h.isub dX5_playOctet_8) ?_
  refine E.m (h.puti h0 lp_RX5_56 rfl dX5_playOctet_9) ?_
  refine E.nmM (fun M1 => ?_)
  refine E.m (h.aload_n 0 dX5_playOctet_12 rfl) ?_
  refine E.m (h.get h0 lf_RX5_12 dX5_playOctet_13 fv_5_10) ?_
  refine E.m (h.aload_n 1 dX5_playOctet_16 rfl) ?_
  refine E.m (h.get h1 lf_RX5_90 dX5_playOctet_17 fv_3_0) ?_
  refine E.bnd (fun u2 M3 => w M3 23 [(0, .ref t), (1, .ref r1_)] [.int u2]) (fun u2 M3 hf k => h.callV (As := [.int (M1.1 r1_ 0)]) (rest := []) (c_X0_indexHere hW (hW.clo 14 h0 rfl) hf) lm_X0_indexHere lv_m_X0_indexHere ll_RX5_108 (hW.clo 14 h0 rfl) lc_0 rfl rfl (Nat.le_of_ble_eq_true rfl) (by decide) dX5_playOctet_20 rfl k) (fun u2 M3 => ?_)
  refine E.m (h.istore_n dX5_playOctet_23 (by decide) rfl) ?_
  refine E.m (h.iload_n 0 dX5_playOctet_24 rfl) ?_
  refine E.m (h.iconst (v := (-1 : Int32)) dX5_playOctet_25 (by decide)) ?_
  refine E.join2 (fun z4 M5 => w M5 130 [(0, .ref t), (1, .ref r1_), (2, .int u2), (3, .int z4)] []) (fun z4 M5 => ?_) (fun J130 hJ130 => ?_)
  · refine E.m (h.aload_n 0 dX5_playOctet_130 rfl) ?_
    refine E.m (h.get h0 lf_RX5_12 dX5_playOctet_131 fv_5_10) ?_
    refine E.m (h.dup dX5_playOctet_134 rfl) ?_
    refine E.m (h.get (hW.clo 14 h0 rfl) lf_RX5_130 dX5_playOctet_135 fv_0_0) ?_
    refine E.m (h.iconst (v := (1 : Int32)) dX5_playOctet_138 (by decide)) ?_
    refine E.m (h.iadd dX5_playOctet_139) ?_
    refine E.m (h.puti (hW.clo 14 h0 rfl) lp_RX5_130 rfl dX5_playOctet_140) ?_
    refine E.nmM (fun M6 => ?_)
    refine E.m (h.aload_n 0 dX5_playOctet_143 rfl) ?_
    refine E.m (h.get h0 lf_RX5_21 dX5_playOctet_144 fv_5_11) ?_
    refine E.m (h.get (hW.clo 15 h0 rfl) lf_RX5_133 dX5_playOctet_147 fv_4_3) ?_
    refine E.m (h.bipush (v := (64 : Int32)) dX5_playOctet_150 (by decide)) ?_
    refine E.join1 (fun M7 => w M7 177 [(0, .ref t), (1, .ref r1_), (2, .int u2), (3, .int z4)] []) (fun M7 => ?_) (fun J177 hJ177 => ?_)
    · exact E.some (ret_v hr dX5_playOctet_177)
    refine E.br (fun k1 k2 => h.icmp_lt (tgt := 177) dX5_playOctet_152 (by decide) k1 k2) ?_ ?_
    · exact hJ177 _
    · refine E.m (h.aload_n 0 dX5_playOctet_155 rfl) ?_
      refine E.m (h.iconst (v := (0 : Int32)) dX5_playOctet_156 (by decide)) ?_
      refine E.m (h.puti h0 lp_RX5_25 rfl dX5_playOctet_157) ?_
      refine E.nmM (fun M8 => ?_)
      refine E.m (h.aload_n 0 dX5_playOctet_160 rfl) ?_
      refine E.m (h.dup dX5_playOctet_161 rfl) ?_
      refine E.m (h.get h0 lf_RX5_49 dX5_playOctet_162 fv_5_9) ?_
      refine E.m (h.iconst (v := (1 : Int32)) dX5_playOctet_165 (by decide)) ?_
      refine E.m (h.iadd dX5_playOctet_166) ?_
      refine E.m (h.puti h0 lp_RX5_49 rfl dX5_playOctet_167) ?_
      refine E.nmM (fun M9 => ?_)
      refine E.m (h.aload_n 0 dX5_playOctet_170 rfl) ?_
      refine E.m (h.get h0 lf_RX5_12 dX5_playOctet_171 fv_5_10) ?_
      refine E.bnd (fun _ M11 => w M11 177 [(0, .ref t), (1, .ref r1_), (2, .int u2), (3, .int z4)] []) (fun _ M11 hf k => h.callV (As := []) (rest := []) (c_X0_empty hW (hW.clo 14 h0 rfl) hf) lm_X0_empty lv_m_X0_empty ll_RX5_136 (hW.clo 14 h0 rfl) lc_0 rfl rfl (Nat.le_of_ble_eq_true rfl) (by decide) dX5_playOctet_174 rfl k) (fun _ M11 => ?_)
      exact hJ177 _
  refine E.br (fun k1 k2 => h.icmp_ne (tgt := 79) dX5_playOctet_26 (by decide) k2 k1) ?_ ?_
  · refine E.m (h.aload_n 1 dX5_playOctet_29 rfl) ?_
    refine E.m (h.get h0 lf_RX5_35 dX5_playOctet_30 fv_5_2) ?_
    refine E.join1 (fun z22 => w M3 46 [(0, .ref t), (1, .ref r1_), (2, .int u2)] [.int z22]) (fun z22 => ?_) (fun J46 hJ46 => ?_)
    · refine E.m (h.istore_n dX5_playOctet_46 (by decide) rfl) ?_
      refine E.m (h.aload_n 1 dX5_playOctet_47 rfl) ?_
      refine E.m (h.get h0 lf_RX5_21 dX5_playOctet_48 fv_5_11) ?_
      refine E.m (h.aload_n 1 dX5_playOctet_51 rfl) ?_
      refine E.m (h.get h0 lf_RX5_35 dX5_playOctet_52 fv_5_2) ?_
      refine E.m (h.iconst (v := (1 : Int32)) dX5_playOctet_55 (by decide)) ?_
      refine E.join2 (fun z23 M24 => w M24 72 [(0, .ref t), (1, .ref r1_), (2, .int u2), (3, .int z22)] [.int z23, .ref (t + 4)]) (fun z23 M24 => ?_) (fun J72 hJ72 => ?_)
      · refine E.m (h.iconst (v := (1 : Int32)) dX5_playOctet_72 (by decide)) ?_
        refine E.bnd (fun _ M26 => w M26 76 [(0, .ref t), (1, .ref r1_), (2, .int u2), (3, .int z22)] []) (fun _ M26 hf k => h.callV (As := [.int z23, .int (1 : Int32)]) (rest := []) (c_X4_hear hW (hW.clo 15 h0 rfl) hf) lm_X4_hear lv_m_X4_hear ll_RX5_117 (hW.clo 15 h0 rfl) lc_4 rfl rfl (Nat.le_of_ble_eq_true rfl) (by decide) dX5_playOctet_73 rfl k) (fun _ M26 => ?_)
        refine E.m (h.goto (tgt := 130) dX5_playOctet_76 (by decide)) ?_
        exact hJ130 _ _
      refine E.br (fun k1 k2 => h.icmp_ne (tgt := 64) dX5_playOctet_56 (by decide) k2 k1) ?_ ?_
      · refine E.m (h.bipush (v := (126 : Int32)) dX5_playOctet_59 (by decide)) ?_
        refine E.m (h.goto (tgt := 72) dX5_playOctet_61 (by decide)) ?_
        refine E.m (h.sub [1, 2, 3, 0] rfl) ?_
        exact hJ72 _ _
      · refine E.m (h.aload_n 1 dX5_playOctet_64 rfl) ?_
        refine E.m (h.get h0 lf_RX5_21 dX5_playOctet_65 fv_5_11) ?_
        refine E.m (h.iload_n 0 dX5_playOctet_68 rfl) ?_
        refine E.bnd (fun u27 M28 => w M28 72 [(3, .int z22), (0, .ref t), (1, .ref r1_), (2, .int u2)] [.int u27, .ref (t + 4)]) (fun u27 M28 hf k => h.callV (As := [.int z22]) (rest := [.ref (t + 4)]) (c_X4_latest hW (hW.clo 15 h0 rfl) hf) lm_X4_latest lv_m_X4_latest ll_RX5_114 (hW.clo 15 h0 rfl) lc_4 rfl rfl (Nat.le_of_ble_eq_true rfl) (by decide) dX5_playOctet_69 rfl k) (fun u27 M28 => ?_)
        refine E.m (h.sub [1, 2, 3, 0] rfl) ?_
        exact hJ72 _ _
    refine E.br (fun k1 k2 => h.if_ne (tgt := 40) dX5_playOctet_33 (by decide) k2 k1) ?_ ?_
    · refine E.m (h.iconst (v := (0 : Int32)) dX5_playOctet_36 (by decide)) ?_
      refine E.m (h.goto (tgt := 46) dX5_playOctet_37 (by decide)) ?_
      refine E.m (h.sub [1, 2, 0] rfl) ?_
      exact hJ46 _
    · refine E.m (h.aload_n 2 dX5_playOctet_40 rfl) ?_
      refine E.m (h.get h1 lf_RX5_111 dX5_playOctet_41 fv_3_6) ?_
      refine E.m (h.iconst (v := (1 : Int32)) dX5_playOctet_44 (by decide)) ?_
      refine E.m (h.isub dX5_playOctet_45) ?_
      refine E.m (h.sub [1, 2, 0] rfl) ?_
      exact hJ46 _
  · refine E.m (h.aload_n 2 dX5_playOctet_79 rfl) ?_
    refine E.m (h.iload_n 0 dX5_playOctet_80 rfl) ?_
    refine E.bnd (fun u12 M13 => w M13 84 [(2, .int u2), (0, .ref t), (1, .ref r1_)] [.int u12]) (fun u12 M13 hf k => h.callV (As := [.int u2]) (rest := []) (c_X3_octet hW h1 hf) lm_X3_octet lv_m_X3_octet ll_RX5_121 h1 lc_3 rfl rfl (Nat.le_of_ble_eq_true rfl) (by decide) dX5_playOctet_81 rfl k) (fun u12 M13 => ?_)
    refine E.m (h.istore_n dX5_playOctet_84 (by decide) rfl) ?_
    refine E.m (h.aload_n 2 dX5_playOctet_85 rfl) ?_
    refine E.m (h.get h0 lf_RX5_21 dX5_playOctet_86 fv_5_11) ?_
    refine E.m (h.iload_n 0 dX5_playOctet_89 rfl) ?_
    refine E.m (h.iconst (v := (0 : Int32)) dX5_playOctet_90 (by decide)) ?_
    refine E.bnd (fun _ M15 => w M15 94 [(3, .int u12), (2, .int u2), (0, .ref t), (1, .ref r1_)] []) (fun _ M15 hf k => h.callV (As := [.int u12, .int (0 : Int32)]) (rest := []) (c_X4_hear hW (hW.clo 15 h0 rfl) hf) lm_X4_hear lv_m_X4_hear ll_RX5_117 (hW.clo 15 h0 rfl) lc_4 rfl rfl (Nat.le_of_ble_eq_true rfl) (by decide) dX5_playOctet_91 rfl k) (fun _ M15 => ?_)
    refine E.m (h.aload_n 2 dX5_playOctet_94 rfl) ?_
    refine E.m (h.get h0 lf_RX5_21 dX5_playOctet_95 fv_5_11) ?_
    refine E.m (h.dup dX5_playOctet_98 rfl) ?_
    refine E.m (h.get (hW.clo 15 h0 rfl) lf_RX5_124 dX5_playOctet_99 fv_4_2) ?_
    refine E.m (h.iload_n 0 dX5_playOctet_102 rfl) ?_
    refine E.m (h.aload_n 3 dX5_playOctet_103 rfl) ?_
    refine E.m (h.aload_n 2 dX5_playOctet_104 rfl) ?_
    refine E.m (h.get h0 lf_RX5_12 dX5_playOctet_105 fv_5_10) ?_
    refine E.m (h.aload_n 3 dX5_playOctet_108 rfl) ?_
    refine E.m (h.get h1 lf_RX5_90 dX5_playOctet_109 fv_3_0) ?_
    refine E.bnd (fun u16 M17 => w M17 115 [(3, .int u12), (2, .int u2), (0, .ref t), (1, .ref r1_)] [.int u16, .ref r1_, .int u12, .int (M15.1 (t + 4) 2), .ref (t + 4)]) (fun u16 M17 hf k => h.callV (As := [.int (M15.1 r1_ 0)]) (rest := [.ref r1_, .int u12, .int (M15.1 (t + 4) 2), .ref (t + 4)]) (c_X0_indexDue hW (hW.clo 14 h0 rfl) hf) lm_X0_indexDue lv_m_X0_indexDue ll_RX5_127 (hW.clo 14 h0 rfl) lc_0 rfl rfl (Nat.le_of_ble_eq_true rfl) (by decide) dX5_playOctet_112 rfl k) (fun u16 M17 => ?_)
    refine E.bnd (fun u18 M19 => w M19 118 [(3, .int u12), (2, .int u2), (0, .ref t), (1, .ref r1_)] [.int u18, .int u12, .int (M15.1 (t + 4) 2), .ref (t + 4)]) (fun u18 M19 hf k => h.callV (As := [.int u16]) (rest := [.int u12, .int (M15.1 (t + 4) 2), .ref (t + 4)]) (c_X3_octet hW h1 hf) lm_X3_octet lv_m_X3_octet ll_RX5_121 h1 lc_3 rfl rfl (Nat.le_of_ble_eq_true rfl) (by decide) dX5_playOctet_115 rfl k) (fun u18 M19 => ?_)
    refine E.join1 (fun z20 => w M19 126 [(0, .ref t), (1, .ref r1_), (2, .int u2), (3, .int u12)] [.int z20, .int (M15.1 (t + 4) 2), .ref (t + 4)]) (fun z20 => ?_) (fun J126 hJ126 => ?_)
    · refine E.m (h.iadd dX5_playOctet_126) ?_
      refine E.m (h.puti (hW.clo 15 h0 rfl) lp_RX5_124 rfl dX5_playOctet_127) ?_
      refine E.nmM (fun M21 => ?_)
      exact hJ130 _ _
    refine E.br (fun k1 k2 => h.icmp_ne (tgt := 125) dX5_playOctet_118 (by decide) k2 k1) ?_ ?_
    · refine E.m (h.iconst (v := (0 : Int32)) dX5_playOctet_121 (by decide)) ?_
      refine E.m (h.goto (tgt := 126) dX5_playOctet_122 (by decide)) ?_
      refine E.m (h.sub [2, 3, 1, 0] rfl) ?_
      exact hJ126 _
    · refine E.m (h.iconst (v := (1 : Int32)) dX5_playOctet_125 (by decide)) ?_
      refine E.m (h.sub [2, 3, 1, 0] rfl) ?_
      exact hJ126 _
def l_X9_step_78 (t : Nat) (r1_ : Nat) (k12 : Int32) (M13 : Mem) : Option ((Int32 × Mem) ⊕ ((Int32 × Mem) ⊕ (Unit × Mem))) :=
  jn1 (fun M14 => nm (wi M14 t 0 ((M14.1 t 0) + (1 : Int32))) (fun M15 => some (.inr (.inr ((), M15))))) (fun J107 => if (2 : Int32) ≤ k12 then (J107 M13) else (bd (f_X5_isOctetDue (t + 5) M13) (fun u16 M17 => if u16 = 0 then (J107 M17) else (bd (f_X5_playOctet (t + 5) r1_ M17) (fun _ M19 => nm (k12 + (1 : Int32)) (fun y20 => some (.inl (y20, M19))))))))
def l_X9_step_9 (t : Nat) (r1_ : Nat) (k3 : Int32) (M4 : Mem) : Option ((Int32 × Mem) ⊕ (Unit × Mem)) :=
  jn1 (fun M5 => bd (f_X9_receiveDue t (M5.1 r1_ 0) M5) (fun _ M7 => bd (f_X5_steer (t + 5) r1_ (M7.1 t 0) M7) (fun _ M9 => bd (f_X5_runClock (t + 5) (M9.1 (t + 1) 0) M9) (fun _ M11 => lop2 FU (l_X9_step_78 t r1_) (0 : Int32) M11)))) (fun J42 => if (2 : Int32) ≤ k3 then (J42 M4) else (bd (f_X1_isOctetDue (t + 1) M4) (fun u21 M22 => if u21 = 0 then (J42 M22) else (bd (f_X1_makeOctet (t + 1) r1_ (M22.1 t 0) M22) (fun _ M24 => nm (k3 + (1 : Int32)) (fun y25 => some (.inl (y25, M24))))))))
def f_X9_step (t : Nat) (r1_ : Nat) (M : Mem) : Option (Unit × Mem) :=
  bd (f_X1_runClock (t + 1) M) (fun _ M2 => lop2 FU (l_X9_step_9 t r1_) (0 : Int32) M2)
set_option maxRecDepth 20000 in
theorem c_X9_step {G : Ctx} (hW : WFG G) {t : Nat} {r1_ : Nat} {M M' : Mem} (h0 : hs G t (0, 9)) (h1 : hs G r1_ (0, 3)) (hf : f_X9_step t r1_ M = some ((), M')) : Ct G yX9_step cX9_step 3 none 4 97 [.ref t, .ref r1_] M none M' := by
  refine ct_v hW (by decide +kernel) (Nat.le_of_ble_eq_true rfl) (fun w h hr => ?_)
  have h : Rb G cX9_step RX9 3 4 97 w := h
  refine (?_ : E (fun q => q = ((), M')) (f_X9_step t r1_ M) (w M 0 [(0, .ref t), (1, .ref r1_)] [])) _ hf rfl
  unfold f_X9_step
  refine E.m (h.aload_n 0 dX9_step_0 rfl) ?_
  refine E.m (h.get h0 lf_RX9_12 dX9_step_1 fv_9_1) ?_
  refine E.bnd (fun _ M2 => w M2 7 [(0, .ref t), (1, .ref r1_)] []) (fun _ M2 hf k => h.callV (As := []) (rest := []) (c_X1_runClock hW (hW.clo 32 h0 rfl) hf) lm_X1_runClock lv_m_X1_runClock ll_RX9_41 (hW.clo 32 h0 rfl) lc_1 rfl rfl (Nat.le_of_ble_eq_true rfl) (by decide) dX9_step_4 rfl k) (fun _ M2 => ?_)
  refine E.m (h.iconst (v := (0 : Int32)) dX9_step_7 (by decide)) ?_
  refine E.m (h.istore_n dX9_step_8 (by decide) rfl) ?_
  refine E.m (h.sub [1, 2, 0] rfl) ?_
  refine E.loop2 (fun k3 M4 => w M4 9 [(0, .ref t), (1, .ref r1_), (2, .int k3)] []) (fun k3 M4 => ?_) _ _ _
  unfold l_X9_step_9
  refine E.m (h.iload_n 2 dX9_step_9 rfl) ?_
  refine E.m (h.iconst (v := (2 : Int32)) dX9_step_10 (by decide)) ?_
  refine E.join1 (fun M5 => w M5 42 [(0, .ref t), (1, .ref r1_), (2, .int k3)] []) (fun M5 => ?_) (fun J42 hJ42 => ?_)
  · refine E.m (h.aload_n 0 dX9_step_42 rfl) ?_
    refine E.m (h.aload_n 1 dX9_step_43 rfl) ?_
    refine E.m (h.get h1 lf_RX9_52 dX9_step_44 fv_3_0) ?_
    refine E.bnd (fun _ M7 => w M7 50 [(0, .ref t), (1, .ref r1_), (2, .int k3)] []) (fun _ M7 hf k => h.callV (As := [.int (M5.1 r1_ 0)]) (rest := []) (c_X9_receiveDue hW h0 hf) lm_X9_receiveDue lv_m_X9_receiveDue ll_RX9_57 h0 lc_9 rfl rfl (Nat.le_of_ble_eq_true rfl) (by decide) dX9_step_47 rfl k) (fun _ M7 => ?_)
    refine E.m (h.aload_n 0 dX9_step_50 rfl) ?_
    refine E.m (h.get h0 lf_RX9_21 dX9_step_51 fv_9_2) ?_
    refine E.m (h.aload_n 1 dX9_step_54 rfl) ?_
    refine E.m (h.aload_n 0 dX9_step_55 rfl) ?_
    refine E.m (h.get h0 lf_RX9_25 dX9_step_56 fv_9_0) ?_
    refine E.bnd (fun _ M9 => w M9 62 [(0, .ref t), (1, .ref r1_), (2, .int k3)] []) (fun _ M9 hf k => h.callV (As := [.ref r1_, .int (M7.1 t 0)]) (rest := []) (c_X5_steer hW (hW.clo 33 h0 rfl) h1 hf) lm_X5_steer lv_m_X5_steer ll_RX9_61 (hW.clo 33 h0 rfl) lc_5 rfl rfl (Nat.le_of_ble_eq_true rfl) (by decide) dX9_step_59 rfl k) (fun _ M9 => ?_)
    refine E.m (h.aload_n 0 dX9_step_62 rfl) ?_
    refine E.m (h.get h0 lf_RX9_21 dX9_step_63 fv_9_2) ?_
    refine E.m (h.aload_n 0 dX9_step_66 rfl) ?_
    refine E.m (h.get h0 lf_RX9_12 dX9_step_67 fv_9_1) ?_
    refine E.m (h.get (hW.clo 32 h0 rfl) lf_RX9_64 dX9_step_70 fv_1_0) ?_
    refine E.bnd (fun _ M11 => w M11 76 [(0, .ref t), (1, .ref r1_), (2, .int k3)] []) (fun _ M11 hf k => h.callV (As := [.int (M9.1 (t + 1) 0)]) (rest := []) (c_X5_runClock hW (hW.clo 33 h0 rfl) hf) lm_X5_runClock lv_m_X5_runClock ll_RX9_67 (hW.clo 33 h0 rfl) lc_5 rfl rfl (Nat.le_of_ble_eq_true rfl) (by decide) dX9_step_73 rfl k) (fun _ M11 => ?_)
    refine E.m (h.iconst (v := (0 : Int32)) dX9_step_76 (by decide)) ?_
    refine E.m (h.istore_n dX9_step_77 (by decide) rfl) ?_
    refine E.m (h.sub [1, 2, 0] rfl) ?_
    refine E.loop2 (fun k12 M13 => w M13 78 [(0, .ref t), (1, .ref r1_), (2, .int k12)] []) (fun k12 M13 => ?_) _ _ _
    unfold l_X9_step_78
    refine E.m (h.iload_n 2 dX9_step_78 rfl) ?_
    refine E.m (h.iconst (v := (2 : Int32)) dX9_step_79 (by decide)) ?_
    refine E.join1 (fun M14 => w M14 107 [(0, .ref t), (1, .ref r1_), (2, .int k12)] []) (fun M14 => ?_) (fun J107 hJ107 => ?_)
    · refine E.m (h.aload_n 0 dX9_step_107 rfl) ?_
      refine E.m (h.dup dX9_step_108 rfl) ?_
      refine E.m (h.get h0 lf_RX9_25 dX9_step_109 fv_9_0) ?_
      refine E.m (h.iconst (v := (1 : Int32)) dX9_step_112 (by decide)) ?_
      refine E.m (h.iadd dX9_step_113) ?_
      refine E.m (h.puti h0 lp_RX9_25 rfl dX9_step_114) ?_
      refine E.nmM (fun M15 => ?_)
      exact E.some (ret_v hr dX9_step_117)
    refine E.br (fun k1 k2 => h.icmp_ge (tgt := 107) dX9_step_80 (by decide) k1 k2) ?_ ?_
    · exact hJ107 _
    · refine E.m (h.aload_n 0 dX9_step_83 rfl) ?_
      refine E.m (h.get h0 lf_RX9_21 dX9_step_84 fv_9_2) ?_
      refine E.bnd (fun u16 M17 => w M17 90 [(0, .ref t), (1, .ref r1_), (2, .int k12)] [.int u16]) (fun u16 M17 hf k => h.callV (As := []) (rest := []) (c_X5_isOctetDue hW (hW.clo 33 h0 rfl) hf) lm_X5_isOctetDue lv_m_X5_isOctetDue ll_RX9_69 (hW.clo 33 h0 rfl) lc_5 rfl rfl (Nat.le_of_ble_eq_true rfl) (by decide) dX9_step_87 rfl k) (fun u16 M17 => ?_)
      refine E.br (fun k1 k2 => h.if_eq (tgt := 107) dX9_step_90 (by decide) k1 k2) ?_ ?_
      · exact hJ107 _
      · refine E.m (h.aload_n 0 dX9_step_93 rfl) ?_
        refine E.m (h.get h0 lf_RX9_21 dX9_step_94 fv_9_2) ?_
        refine E.m (h.aload_n 1 dX9_step_97 rfl) ?_
        refine E.bnd (fun _ M19 => w M19 101 [(0, .ref t), (1, .ref r1_), (2, .int k12)] []) (fun _ M19 hf k => h.callV (As := [.ref r1_]) (rest := []) (c_X5_playOctet hW (hW.clo 33 h0 rfl) h1 hf) lm_X5_playOctet lv_m_X5_playOctet ll_RX9_70 (hW.clo 33 h0 rfl) lc_5 rfl rfl (Nat.le_of_ble_eq_true rfl) (by decide) dX9_step_98 rfl k) (fun _ M19 => ?_)
        refine E.m (h.iinc (v := (1 : Int32)) 2 dX9_step_101 rfl (by decide) (by decide) rfl) ?_
        refine E.nmL (fun y20 => ?_)
        refine E.m (h.goto (tgt := 78) dX9_step_104 (by decide)) ?_
        refine E.m (h.sub [1, 2, 0] rfl) ?_
        exact E.some (fun q => q)
  refine E.br (fun k1 k2 => h.icmp_ge (tgt := 42) dX9_step_11 (by decide) k1 k2) ?_ ?_
  · exact hJ42 _
  · refine E.m (h.aload_n 0 dX9_step_14 rfl) ?_
    refine E.m (h.get h0 lf_RX9_12 dX9_step_15 fv_9_1) ?_
    refine E.bnd (fun u21 M22 => w M22 21 [(0, .ref t), (1, .ref r1_), (2, .int k3)] [.int u21]) (fun u21 M22 hf k => h.callV (As := []) (rest := []) (c_X1_isOctetDue hW (hW.clo 32 h0 rfl) hf) lm_X1_isOctetDue lv_m_X1_isOctetDue ll_RX9_44 (hW.clo 32 h0 rfl) lc_1 rfl rfl (Nat.le_of_ble_eq_true rfl) (by decide) dX9_step_18 rfl k) (fun u21 M22 => ?_)
    refine E.br (fun k1 k2 => h.if_eq (tgt := 42) dX9_step_21 (by decide) k1 k2) ?_ ?_
    · exact hJ42 _
    · refine E.m (h.aload_n 0 dX9_step_24 rfl) ?_
      refine E.m (h.get h0 lf_RX9_12 dX9_step_25 fv_9_1) ?_
      refine E.m (h.aload_n 1 dX9_step_28 rfl) ?_
      refine E.m (h.aload_n 0 dX9_step_29 rfl) ?_
      refine E.m (h.get h0 lf_RX9_25 dX9_step_30 fv_9_0) ?_
      refine E.bnd (fun _ M24 => w M24 36 [(0, .ref t), (1, .ref r1_), (2, .int k3)] []) (fun _ M24 hf k => h.callV (As := [.ref r1_, .int (M22.1 t 0)]) (rest := []) (c_X1_makeOctet hW (hW.clo 32 h0 rfl) h1 hf) lm_X1_makeOctet lv_m_X1_makeOctet ll_RX9_48 (hW.clo 32 h0 rfl) lc_1 rfl rfl (Nat.le_of_ble_eq_true rfl) (by decide) dX9_step_33 rfl k) (fun _ M24 => ?_)
      refine E.m (h.iinc (v := (1 : Int32)) 2 dX9_step_36 rfl (by decide) (by decide) rfl) ?_
      refine E.nmL (fun y25 => ?_)
      refine E.m (h.goto (tgt := 9) dX9_step_39 (by decide)) ?_
      refine E.m (h.sub [1, 2, 0] rfl) ?_
      exact E.some (fun q => q)
def l_X9_apply_39 (t : Nat) (r1_ : Nat) (x3_ : Int32) (J111 : Mem → Option (Unit × Mem)) (k3 : Int32) (M4 : Mem) : Option ((Int32 × Mem) ⊕ (Unit × Mem)) :=
  if x3_ ≤ k3 then (up (J111 M4)) else (bd (f_X9_step t r1_ M4) (fun _ M6 => nm (k3 + (1 : Int32)) (fun y7 => some (.inl (y7, M6)))))
def f_X9_apply (t : Nat) (r1_ : Nat) (x2_ : Int32) (x3_ : Int32) (M : Mem) : Option (Unit × Mem) :=
  jn1 (fun M1 => some ((), M1)) (fun J111 => if x2_.toInt < 0 ∨ 4 < x2_.toInt then (nm (wi M (t + 5) 1 x3_) (fun M2 => J111 M2)) else if x2_ = (0 : Int32) then (lop2 FU (l_X9_apply_39 t r1_ x3_ J111) (0 : Int32) M) else if x2_ = (1 : Int32) then (nm (wi M (t + 1) 6 x3_) (fun M8 => J111 M8)) else if x2_ = (2 : Int32) then (nm (wi M (t + 1) 7 x3_) (fun M9 => J111 M9)) else if x2_ = (3 : Int32) then (nm (wi M (t + 1) 0 x3_) (fun M10 => J111 M10)) else if x2_ = (4 : Int32) then (nm (wi M (t + 5) 2 x3_) (fun M11 => J111 M11)) else none)
set_option maxRecDepth 20000 in
theorem c_X9_apply {G : Ctx} (hW : WFG G) {t : Nat} {r1_ : Nat} {x2_ : Int32} {x3_ : Int32} {M M' : Mem} (h0 : hs G t (0, 9)) (h1 : hs G r1_ (0, 3)) (hf : f_X9_apply t r1_ x2_ x3_ M = some ((), M')) : Ct G yX9_apply cX9_apply 5 none 5 119 [.ref t, .ref r1_, .int x2_, .int x3_] M none M' := by
  refine ct_v hW (by decide +kernel) (Nat.le_of_ble_eq_true rfl) (fun w h hr => ?_)
  have h : Rb G cX9_apply RX9 5 5 119 w := h
  refine (?_ : E (fun q => q = ((), M')) (f_X9_apply t r1_ x2_ x3_ M) (w M 0 [(0, .ref t), (1, .ref r1_), (2, .int x2_), (3, .int x3_)] [])) _ hf rfl
  unfold f_X9_apply
  refine E.m (h.iload_n 2 dX9_apply_0 rfl) ?_
  refine E.join1 (fun M1 => w M1 111 [(0, .ref t), (1, .ref r1_), (2, .int x2_), (3, .int x3_)] []) (fun M1 => ?_) (fun J111 hJ111 => ?_)
  · exact E.some (ret_v hr dX9_apply_111)
  refine E.sw (fun hc k => h.tabOut (tgt := 103) dX9_apply_1 hc (by decide) k) ?_ (fun hn => ?_)
  · refine E.m (h.aload_n 0 dX9_apply_103 rfl) ?_
    refine E.m (h.get h0 lf_RX9_21 dX9_apply_104 fv_9_2) ?_
    refine E.m (h.iload_n 3 dX9_apply_107 rfl) ?_
    refine E.m (h.puti (hW.clo 33 h0 rfl) lp_RX9_122 rfl dX9_apply_108) ?_
    refine E.nmM (fun M2 => ?_)
    exact hJ111 _
  refine E.sw (fun hc k => h.tabIn (tgt := 36) dX9_apply_1 (by rw [hc]; decide) (by rw [hc]; decide) (by rw [hc]; rfl) (by decide) k) ?_ (fun _ => ?_)
  · refine E.m (h.iconst (v := (0 : Int32)) dX9_apply_36 (by decide)) ?_
    refine E.m (h.istore dX9_apply_37 (by decide) rfl) ?_
    refine E.m (h.sub [1, 2, 3, 4, 0] rfl) ?_
    refine E.loop2 (fun k3 M4 => w M4 39 [(0, .ref t), (1, .ref r1_), (2, .int x2_), (3, .int x3_), (4, .int k3)] []) (fun k3 M4 => ?_) _ _ _
    unfold l_X9_apply_39
    refine E.m (h.iload 4 dX9_apply_39 rfl) ?_
    refine E.m (h.iload_n 3 dX9_apply_41 rfl) ?_
    refine E.br (fun k1 k2 => h.icmp_ge (tgt := 56) dX9_apply_42 (by decide) k1 k2) ?_ ?_
    · refine E.m (h.goto (tgt := 111) dX9_apply_56 (by decide)) ?_
      refine E.m (h.sub [0, 1, 2, 3] rfl) ?_
      exact E.up (fun _ q => q) (hJ111 _)
    · refine E.m (h.aload_n 0 dX9_apply_45 rfl) ?_
      refine E.m (h.aload_n 1 dX9_apply_46 rfl) ?_
      refine E.bnd (fun _ M6 => w M6 50 [(0, .ref t), (1, .ref r1_), (2, .int x2_), (3, .int x3_), (4, .int k3)] []) (fun _ M6 hf k => h.callV (As := [.ref r1_]) (rest := []) (c_X9_step hW h0 h1 hf) lm_X9_step lv_m_X9_step ll_RX9_110 h0 lc_9 rfl rfl (Nat.le_of_ble_eq_true rfl) (by decide) dX9_apply_47 rfl k) (fun _ M6 => ?_)
      refine E.m (h.iinc (v := (1 : Int32)) 4 dX9_apply_50 rfl (by decide) (by decide) rfl) ?_
      refine E.nmL (fun y7 => ?_)
      refine E.m (h.goto (tgt := 39) dX9_apply_53 (by decide)) ?_
      refine E.m (h.sub [1, 2, 3, 4, 0] rfl) ?_
      exact E.some (fun q => q)
  refine E.sw (fun hc k => h.tabIn (tgt := 59) dX9_apply_1 (by rw [hc]; decide) (by rw [hc]; decide) (by rw [hc]; rfl) (by decide) k) ?_ (fun _ => ?_)
  · refine E.m (h.aload_n 0 dX9_apply_59 rfl) ?_
    refine E.m (h.get h0 lf_RX9_12 dX9_apply_60 fv_9_1) ?_
    refine E.m (h.iload_n 3 dX9_apply_63 rfl) ?_
    refine E.m (h.puti (hW.clo 32 h0 rfl) lp_RX9_113 rfl dX9_apply_64) ?_
    refine E.nmM (fun M8 => ?_)
    refine E.m (h.goto (tgt := 111) dX9_apply_67 (by decide)) ?_
    exact hJ111 _
  refine E.sw (fun hc k => h.tabIn (tgt := 70) dX9_apply_1 (by rw [hc]; decide) (by rw [hc]; decide) (by rw [hc]; rfl) (by decide) k) ?_ (fun _ => ?_)
  · refine E.m (h.aload_n 0 dX9_apply_70 rfl) ?_
    refine E.m (h.get h0 lf_RX9_12 dX9_apply_71 fv_9_1) ?_
    refine E.m (h.iload_n 3 dX9_apply_74 rfl) ?_
    refine E.m (h.puti (hW.clo 32 h0 rfl) lp_RX9_116 rfl dX9_apply_75) ?_
    refine E.nmM (fun M9 => ?_)
    refine E.m (h.goto (tgt := 111) dX9_apply_78 (by decide)) ?_
    exact hJ111 _
  refine E.sw (fun hc k => h.tabIn (tgt := 81) dX9_apply_1 (by rw [hc]; decide) (by rw [hc]; decide) (by rw [hc]; rfl) (by decide) k) ?_ (fun _ => ?_)
  · refine E.m (h.aload_n 0 dX9_apply_81 rfl) ?_
    refine E.m (h.get h0 lf_RX9_12 dX9_apply_82 fv_9_1) ?_
    refine E.m (h.iload_n 3 dX9_apply_85 rfl) ?_
    refine E.m (h.puti (hW.clo 32 h0 rfl) lp_RX9_64 rfl dX9_apply_86) ?_
    refine E.nmM (fun M10 => ?_)
    refine E.m (h.goto (tgt := 111) dX9_apply_89 (by decide)) ?_
    exact hJ111 _
  refine E.sw (fun hc k => h.tabIn (tgt := 92) dX9_apply_1 (by rw [hc]; decide) (by rw [hc]; decide) (by rw [hc]; rfl) (by decide) k) ?_ (fun _ => ?_)
  · refine E.m (h.aload_n 0 dX9_apply_92 rfl) ?_
    refine E.m (h.get h0 lf_RX9_21 dX9_apply_93 fv_9_2) ?_
    refine E.m (h.iload_n 3 dX9_apply_96 rfl) ?_
    refine E.m (h.puti (hW.clo 33 h0 rfl) lp_RX9_119 rfl dX9_apply_97) ?_
    refine E.nmM (fun M11 => ?_)
    refine E.m (h.goto (tgt := 111) dX9_apply_100 (by decide)) ?_
    exact hJ111 _
  exact E.none
def f_J9_abs_0f7a4 (x1_ : Int32) (M : Mem) : Option (Int32 × Mem) :=
  jn1 (fun z1 => some (z1, M)) (fun J10 => if 0 ≤ x1_ then (J10 x1_) else (J10 (-x1_)))
set_option maxRecDepth 20000 in
theorem c_J9_abs_0f7a4 {G : Ctx} (hW : WFG G) {x1_ : Int32} {M M' : Mem} {r : Int32} (hf : f_J9_abs_0f7a4 x1_ M = some (r, M')) : Ct G yJ9_abs_0f7a4 cJ9_abs_0f7a4 1 (some .int) 0 0 [.int x1_] M (some (.int r)) M' := by
  refine ct_i hW (by decide +kernel) (Nat.le_of_ble_eq_true rfl) (fun w h hr => ?_)
  have h : Rb G cJ9_abs_0f7a4 RJ9 1 0 0 w := h
  refine (?_ : E (fun q => q = (r, M')) (f_J9_abs_0f7a4 x1_ M) (w M 0 [(0, .int x1_)] [])) _ hf rfl
  unfold f_J9_abs_0f7a4
  refine E.m (h.iload_n 0 dJ9_abs_0f7a4_0 rfl) ?_
  refine E.join1 (fun z1 => w M 10 [(0, .int x1_)] [.int z1]) (fun z1 => ?_) (fun J10 hJ10 => ?_)
  · exact E.some (ret_i hr rfl dJ9_abs_0f7a4_10)
  refine E.br (fun k1 k2 => h.if_ge (tgt := 9) dJ9_abs_0f7a4_1 (by decide) k1 k2) ?_ ?_
  · refine E.m (h.iload_n 0 dJ9_abs_0f7a4_9 rfl) ?_
    exact hJ10 _
  · refine E.m (h.iload_n 0 dJ9_abs_0f7a4_4 rfl) ?_
    refine E.m (h.ineg dJ9_abs_0f7a4_5) ?_
    refine E.m (h.goto (tgt := 10) dJ9_abs_0f7a4_6 (by decide)) ?_
    exact hJ10 _
def f_X7_clear (t : Nat) (M : Mem) : Option (Unit × Mem) :=
  nm (wi M t 1 (0 : Int32)) (fun M1 => some ((), M1))
set_option maxRecDepth 20000 in
theorem c_X7_clear {G : Ctx} (hW : WFG G) {t : Nat} {M M' : Mem} (h0 : hs G t (0, 7)) (hf : f_X7_clear t M = some ((), M')) : Ct G yX7_clear cX7_clear 1 none 0 0 [.ref t] M none M' := by
  refine ct_v hW (by decide +kernel) (Nat.le_of_ble_eq_true rfl) (fun w h hr => ?_)
  have h : Rb G cX7_clear RX7 1 0 0 w := h
  refine (?_ : E (fun q => q = ((), M')) (f_X7_clear t M) (w M 0 [(0, .ref t)] [])) _ hf rfl
  unfold f_X7_clear
  refine E.m (h.aload_n 0 dX7_clear_0 rfl) ?_
  refine E.m (h.iconst (v := (0 : Int32)) dX7_clear_1 (by decide)) ?_
  refine E.m (h.puti h0 lp_RX7_18 rfl dX7_clear_2) ?_
  refine E.nmM (fun M1 => ?_)
  exact E.some (ret_v hr dX7_clear_5)
def f_X3_clear (t : Nat) (M : Mem) : Option (Unit × Mem) :=
  nm (wi M t 0 (4 : Int32)) (fun M1 => nm (wi M1 t 1 (12 : Int32)) (fun M2 => nm (wi M2 t 2 (4 : Int32)) (fun M3 => nm (wi M3 t 3 (1 : Int32)) (fun M4 => nm (wi M4 t 4 (8 : Int32)) (fun M5 => nm (wi M5 t 5 (0 : Int32)) (fun M6 => nm (wi M6 t 6 (1 : Int32)) (fun M7 => nm (wi M7 t 7 (1 : Int32)) (fun M8 => bd (f_X10_put (t + 1) 16 (0 : Int32) (85 : Int32) M8) (fun _ M10 => bd (f_X7_clear (t + 2) M10) (fun _ M12 => bd (f_X7_clear (t + 5) M12) (fun _ M14 => some ((), M14))))))))))))
set_option maxRecDepth 20000 in
theorem c_X3_clear {G : Ctx} (hW : WFG G) {t : Nat} {M M' : Mem} (h0 : hs G t (0, 3)) (hf : f_X3_clear t M = some ((), M')) : Ct G yX3_clear cX3_clear 1 none 1 22 [.ref t] M none M' := by
  refine ct_v hW (by decide +kernel) (Nat.le_of_ble_eq_true rfl) (fun w h hr => ?_)
  have h : Rb G cX3_clear RX3 1 1 22 w := h
  refine (?_ : E (fun q => q = ((), M')) (f_X3_clear t M) (w M 0 [(0, .ref t)] [])) _ hf rfl
  unfold f_X3_clear
  refine E.m (h.aload_n 0 dX3_clear_0 rfl) ?_
  refine E.m (h.iconst (v := (4 : Int32)) dX3_clear_1 (by decide)) ?_
  refine E.m (h.puti h0 lp_RX3_26 rfl dX3_clear_2) ?_
  refine E.nmM (fun M1 => ?_)
  refine E.m (h.aload_n 0 dX3_clear_5 rfl) ?_
  refine E.m (h.bipush (v := (12 : Int32)) dX3_clear_6 (by decide)) ?_
  refine E.m (h.puti h0 lp_RX3_30 rfl dX3_clear_8) ?_
  refine E.nmM (fun M2 => ?_)
  refine E.m (h.aload_n 0 dX3_clear_11 rfl) ?_
  refine E.m (h.iconst (v := (4 : Int32)) dX3_clear_12 (by decide)) ?_
  refine E.m (h.puti h0 lp_RX3_33 rfl dX3_clear_13) ?_
  refine E.nmM (fun M3 => ?_)
  refine E.m (h.aload_n 0 dX3_clear_16 rfl) ?_
  refine E.m (h.iconst (v := (1 : Int32)) dX3_clear_17 (by decide)) ?_
  refine E.m (h.puti h0 lp_RX3_36 rfl dX3_clear_18) ?_
  refine E.nmM (fun M4 => ?_)
  refine E.m (h.aload_n 0 dX3_clear_21 rfl) ?_
  refine E.m (h.bipush (v := (8 : Int32)) dX3_clear_22 (by decide)) ?_
  refine E.m (h.puti h0 lp_RX3_39 rfl dX3_clear_24) ?_
  refine E.nmM (fun M5 => ?_)
  refine E.m (h.aload_n 0 dX3_clear_27 rfl) ?_
  refine E.m (h.iconst (v := (0 : Int32)) dX3_clear_28 (by decide)) ?_
  refine E.m (h.puti h0 lp_RX3_42 rfl dX3_clear_29) ?_
  refine E.nmM (fun M6 => ?_)
  refine E.m (h.aload_n 0 dX3_clear_32 rfl) ?_
  refine E.m (h.iconst (v := (1 : Int32)) dX3_clear_33 (by decide)) ?_
  refine E.m (h.puti h0 lp_RX3_45 rfl dX3_clear_34) ?_
  refine E.nmM (fun M7 => ?_)
  refine E.m (h.aload_n 0 dX3_clear_37 rfl) ?_
  refine E.m (h.iconst (v := (1 : Int32)) dX3_clear_38 (by decide)) ?_
  refine E.m (h.puti h0 lp_RX3_48 rfl dX3_clear_39) ?_
  refine E.nmM (fun M8 => ?_)
  refine E.m (h.aload_n 0 dX3_clear_42 rfl) ?_
  refine E.m (h.get h0 lf_RX3_7 dX3_clear_43 fv_3_8) ?_
  refine E.m (h.iconst (v := (0 : Int32)) dX3_clear_46 (by decide)) ?_
  refine E.m (h.bipush (v := (85 : Int32)) dX3_clear_47 (by decide)) ?_
  refine E.bnd (fun _ M10 => w M10 52 [(0, .ref t)] []) (fun _ M10 hf k => h.callSN (As := [.ref (t + 1), .int (0 : Int32), .int (85 : Int32)]) (rest := []) (c_X10_put hW (hW.clo 9 h0 rfl) hf) lm_X10_put ls_m_X10_put 2 rfl rfl rfl (Nat.le_of_ble_eq_true rfl) (by decide) dX3_clear_49 rfl k) (fun _ M10 => ?_)
  refine E.m (h.aload_n 0 dX3_clear_52 rfl) ?_
  refine E.m (h.get h0 lf_RX3_16 dX3_clear_53 fv_3_9) ?_
  refine E.bnd (fun _ M12 => w M12 59 [(0, .ref t)] []) (fun _ M12 hf k => h.callV (As := []) (rest := []) (c_X7_clear hW (hW.clo 10 h0 rfl) hf) lm_X7_clear lv_m_X7_clear ll_RX3_57 (hW.clo 10 h0 rfl) lc_7 rfl rfl (Nat.le_of_ble_eq_true rfl) (by decide) dX3_clear_56 rfl k) (fun _ M12 => ?_)
  refine E.m (h.aload_n 0 dX3_clear_59 rfl) ?_
  refine E.m (h.get h0 lf_RX3_20 dX3_clear_60 fv_3_10) ?_
  refine E.bnd (fun _ M14 => w M14 66 [(0, .ref t)] []) (fun _ M14 hf k => h.callV (As := []) (rest := []) (c_X7_clear hW (hW.clo 11 h0 rfl) hf) lm_X7_clear lv_m_X7_clear ll_RX3_57 (hW.clo 11 h0 rfl) lc_7 rfl rfl (Nat.le_of_ble_eq_true rfl) (by decide) dX3_clear_63 rfl k) (fun _ M14 => ?_)
  exact E.some (ret_v hr dX3_clear_66)
def f_X4_begin (t : Nat) (M : Mem) : Option (Unit × Mem) :=
  nm (wi M t 0 (0 : Int32)) (fun M1 => nm (wi M1 t 1 (0 : Int32)) (fun M2 => nm (wi M2 t 2 (0 : Int32)) (fun M3 => nm (wi M3 t 3 (0 : Int32)) (fun M4 => nm (wi M4 t 4 (0 : Int32)) (fun M5 => some ((), M5))))))
set_option maxRecDepth 20000 in
theorem c_X4_begin {G : Ctx} (hW : WFG G) {t : Nat} {M M' : Mem} (h0 : hs G t (0, 4)) (hf : f_X4_begin t M = some ((), M')) : Ct G yX4_begin cX4_begin 1 none 0 0 [.ref t] M none M' := by
  refine ct_v hW (by decide +kernel) (Nat.le_of_ble_eq_true rfl) (fun w h hr => ?_)
  have h : Rb G cX4_begin RX4 1 0 0 w := h
  refine (?_ : E (fun q => q = ((), M')) (f_X4_begin t M) (w M 0 [(0, .ref t)] [])) _ hf rfl
  unfold f_X4_begin
  refine E.m (h.aload_n 0 dX4_begin_0 rfl) ?_
  refine E.m (h.iconst (v := (0 : Int32)) dX4_begin_1 (by decide)) ?_
  refine E.m (h.puti h0 lp_RX4_18 rfl dX4_begin_2) ?_
  refine E.nmM (fun M1 => ?_)
  refine E.m (h.aload_n 0 dX4_begin_5 rfl) ?_
  refine E.m (h.iconst (v := (0 : Int32)) dX4_begin_6 (by decide)) ?_
  refine E.m (h.puti h0 lp_RX4_22 rfl dX4_begin_7) ?_
  refine E.nmM (fun M2 => ?_)
  refine E.m (h.aload_n 0 dX4_begin_10 rfl) ?_
  refine E.m (h.iconst (v := (0 : Int32)) dX4_begin_11 (by decide)) ?_
  refine E.m (h.puti h0 lp_RX4_25 rfl dX4_begin_12) ?_
  refine E.nmM (fun M3 => ?_)
  refine E.m (h.aload_n 0 dX4_begin_15 rfl) ?_
  refine E.m (h.iconst (v := (0 : Int32)) dX4_begin_16 (by decide)) ?_
  refine E.m (h.puti h0 lp_RX4_28 rfl dX4_begin_17) ?_
  refine E.nmM (fun M4 => ?_)
  refine E.m (h.aload_n 0 dX4_begin_20 rfl) ?_
  refine E.m (h.iconst (v := (0 : Int32)) dX4_begin_21 (by decide)) ?_
  refine E.m (h.puti h0 lp_RX4_31 rfl dX4_begin_22) ?_
  refine E.nmM (fun M5 => ?_)
  exact E.some (ret_v hr dX4_begin_25)
def f_X4_samplesKept (t : Nat) (M : Mem) : Option (Int32 × Mem) :=
  bd (f_J9_min_7cf53 (M.1 t 4) (128 : Int32) M) (fun u1 M2 => some (u1, M2))
set_option maxRecDepth 20000 in
theorem c_X4_samplesKept {G : Ctx} (hW : WFG G) {t : Nat} {M M' : Mem} {r : Int32} (h0 : hs G t (0, 4)) (hf : f_X4_samplesKept t M = some (r, M')) : Ct G yX4_samplesKept cX4_samplesKept 1 (some .int) 1 21 [.ref t] M (some (.int r)) M' := by
  refine ct_i hW (by decide +kernel) (Nat.le_of_ble_eq_true rfl) (fun w h hr => ?_)
  have h : Rb G cX4_samplesKept RX4 1 1 21 w := h
  refine (?_ : E (fun q => q = (r, M')) (f_X4_samplesKept t M) (w M 0 [(0, .ref t)] [])) _ hf rfl
  unfold f_X4_samplesKept
  refine E.m (h.aload_n 0 dX4_samplesKept_0 rfl) ?_
  refine E.m (h.get h0 lf_RX4_31 dX4_samplesKept_1 fv_4_4) ?_
  refine E.m (h.sipush (v := (128 : Int32)) dX4_samplesKept_4 (by decide)) ?_
  refine E.bnd (fun u1 M2 => w M2 10 [(0, .ref t)] [.int u1]) (fun u1 M2 hf k => h.callS (As := [.int (M.1 t 4), .int (128 : Int32)]) (rest := []) (c_J9_min_7cf53 hW hf) lm_J9_min_7cf53 ls_m_J9_min_7cf53 ll_RX4_38 rfl rfl (Nat.le_of_ble_eq_true rfl) (by decide) dX4_samplesKept_7 rfl k) (fun u1 M2 => ?_)
  exact E.some (ret_i hr rfl dX4_samplesKept_10)
def f_X4_latestIsFilled (t : Nat) (x1_ : Int32) (M : Mem) : Option (Int32 × Mem) :=
  bd (f_X4_octetsKept t M) (fun u1 M2 => jn2 (fun z3 M4 => gdp (z3 = 0 ∨ z3 = 1) (some (z3, M4))) (fun J40 => jn1 (fun M5 => J40 (0 : Int32) M5) (fun J39 => if u1 ≤ x1_ then (J39 M2) else (bd (f_X10_mod (((M2.1 t 0) - (1 : Int32)) - x1_) (128 : Int32) M2) (fun u6 M7 => bd (f_X10_at (t + 1) 128 u6 M7) (fun u8 M9 => if u8 < (256 : Int32) then (J39 M9) else (J40 (1 : Int32) M9)))))))
set_option maxRecDepth 20000 in
theorem c_X4_latestIsFilled {G : Ctx} (hW : WFG G) {t : Nat} {x1_ : Int32} {M M' : Mem} {r : Int32} (h0 : hs G t (0, 4)) (hf : f_X4_latestIsFilled t x1_ M = some (r, M')) : Ct G yX4_latestIsFilled cX4_latestIsFilled 2 (some .boolean) 2 43 [.ref t, .int x1_] M (some (.int r)) M' := by
  refine ct_i hW (by decide +kernel) (Nat.le_of_ble_eq_true rfl) (fun w h hr => ?_)
  have h : Rb G cX4_latestIsFilled RX4 2 2 43 w := h
  refine (?_ : E (fun q => q = (r, M')) (f_X4_latestIsFilled t x1_ M) (w M 0 [(0, .ref t), (1, .int x1_)] [])) _ hf rfl
  unfold f_X4_latestIsFilled
  refine E.m (h.iload_n 1 dX4_latestIsFilled_0 rfl) ?_
  refine E.m (h.aload_n 0 dX4_latestIsFilled_1 rfl) ?_
  refine E.bnd (fun u1 M2 => w M2 5 [(0, .ref t), (1, .int x1_)] [.int u1, .int x1_]) (fun u1 M2 hf k => h.callV (As := []) (rest := [.int x1_]) (c_X4_octetsKept hW h0 hf) lm_X4_octetsKept lv_m_X4_octetsKept ll_RX4_51 h0 lc_4 rfl rfl (Nat.le_of_ble_eq_true rfl) (by decide) dX4_latestIsFilled_2 rfl k) (fun u1 M2 => ?_)
  refine E.join2 (fun z3 M4 => w M4 40 [(0, .ref t), (1, .int x1_)] [.int z3]) (fun z3 M4 => ?_) (fun J40 hJ40 => ?_)
  · refine E.gd (fun hc k => k hc) (fun hc => E.imp fun hc => ?_)
    exact E.some (ret_i hr (bl_n hc).1 dX4_latestIsFilled_40)
  refine E.join1 (fun M5 => w M5 39 [(0, .ref t), (1, .int x1_)] []) (fun M5 => ?_) (fun J39 hJ39 => ?_)
  · refine E.m (h.iconst (v := (0 : Int32)) dX4_latestIsFilled_39 (by decide)) ?_
    exact hJ40 _ _
  refine E.br (fun k1 k2 => h.icmp_ge (tgt := 39) dX4_latestIsFilled_5 (by decide) k1 k2) ?_ ?_
  · exact hJ39 _
  · refine E.m (h.aload_n 0 dX4_latestIsFilled_8 rfl) ?_
    refine E.m (h.get h0 lf_RX4_9 dX4_latestIsFilled_9 fv_4_5) ?_
    refine E.m (h.aload_n 0 dX4_latestIsFilled_12 rfl) ?_
    refine E.m (h.get h0 lf_RX4_18 dX4_latestIsFilled_13 fv_4_0) ?_
    refine E.m (h.iconst (v := (1 : Int32)) dX4_latestIsFilled_16 (by decide)) ?_
    refine E.m (h.isub dX4_latestIsFilled_17) ?_
    refine E.m (h.iload_n 1 dX4_latestIsFilled_18 rfl) ?_
    refine E.m (h.isub dX4_latestIsFilled_19) ?_
    refine E.m (h.sipush (v := (128 : Int32)) dX4_latestIsFilled_20 (by decide)) ?_
    refine E.bnd (fun u6 M7 => w M7 26 [(0, .ref t), (1, .int x1_)] [.int u6, .ref (t + 1)]) (fun u6 M7 hf k => h.callSN (As := [.int (((M2.1 t 0) - (1 : Int32)) - x1_), .int (128 : Int32)]) (rest := [.ref (t + 1)]) (c_X10_mod hW hf) lm_X10_mod ls_m_X10_mod 26 rfl rfl rfl (Nat.le_of_ble_eq_true rfl) (by decide) dX4_latestIsFilled_23 rfl k) (fun u6 M7 => ?_)
    refine E.bnd (fun u8 M9 => w M9 29 [(0, .ref t), (1, .int x1_)] [.int u8]) (fun u8 M9 hf k => h.callSN (As := [.ref (t + 1), .int u6]) (rest := []) (c_X10_at hW (hW.clo 12 h0 rfl) hf) lm_X10_at ls_m_X10_at 29 rfl rfl rfl (Nat.le_of_ble_eq_true rfl) (by decide) dX4_latestIsFilled_26 rfl k) (fun u8 M9 => ?_)
    refine E.m (h.sipush (v := (256 : Int32)) dX4_latestIsFilled_29 (by decide)) ?_
    refine E.br (fun k1 k2 => h.icmp_lt (tgt := 39) dX4_latestIsFilled_32 (by decide) k1 k2) ?_ ?_
    · exact hJ39 _
    · refine E.m (h.iconst (v := (1 : Int32)) dX4_latestIsFilled_35 (by decide)) ?_
      refine E.m (h.goto (tgt := 40) dX4_latestIsFilled_36 (by decide)) ?_
      exact hJ40 _ _
def f_X4_sampleAt (t : Nat) (x1_ : Int32) (M : Mem) : Option (Int32 × Mem) :=
  bd (f_X4_samplesKept t M) (fun u1 M2 => bd (f_X10_mod (((M.1 t 4) - u1) + x1_) (128 : Int32) M2) (fun u3 M4 => bd (f_X10_at (t + 2) 128 u3 M4) (fun u5 M6 => some (u5, M6))))
set_option maxRecDepth 20000 in
theorem c_X4_sampleAt {G : Ctx} (hW : WFG G) {t : Nat} {x1_ : Int32} {M M' : Mem} {r : Int32} (h0 : hs G t (0, 4)) (hf : f_X4_sampleAt t x1_ M = some (r, M')) : Ct G yX4_sampleAt cX4_sampleAt 2 (some .int) 2 43 [.ref t, .int x1_] M (some (.int r)) M' := by
  refine ct_i hW (by decide +kernel) (Nat.le_of_ble_eq_true rfl) (fun w h hr => ?_)
  have h : Rb G cX4_sampleAt RX4 2 2 43 w := h
  refine (?_ : E (fun q => q = (r, M')) (f_X4_sampleAt t x1_ M) (w M 0 [(0, .ref t), (1, .int x1_)] [])) _ hf rfl
  unfold f_X4_sampleAt
  refine E.m (h.aload_n 0 dX4_sampleAt_0 rfl) ?_
  refine E.m (h.get h0 lf_RX4_15 dX4_sampleAt_1 fv_4_6) ?_
  refine E.m (h.aload_n 0 dX4_sampleAt_4 rfl) ?_
  refine E.m (h.get h0 lf_RX4_31 dX4_sampleAt_5 fv_4_4) ?_
  refine E.m (h.aload_n 0 dX4_sampleAt_8 rfl) ?_
  refine E.bnd (fun u1 M2 => w M2 12 [(0, .ref t), (1, .int x1_)] [.int u1, .int (M.1 t 4), .ref (t + 2)]) (fun u1 M2 hf k => h.callV (As := []) (rest := [.int (M.1 t 4), .ref (t + 2)]) (c_X4_samplesKept hW h0 hf) lm_X4_samplesKept lv_m_X4_samplesKept ll_RX4_59 h0 lc_4 rfl rfl (Nat.le_of_ble_eq_true rfl) (by decide) dX4_sampleAt_9 rfl k) (fun u1 M2 => ?_)
  refine E.m (h.isub dX4_sampleAt_12) ?_
  refine E.m (h.iload_n 1 dX4_sampleAt_13 rfl) ?_
  refine E.m (h.iadd dX4_sampleAt_14) ?_
  refine E.m (h.sipush (v := (128 : Int32)) dX4_sampleAt_15 (by decide)) ?_
  refine E.bnd (fun u3 M4 => w M4 21 [(0, .ref t), (1, .int x1_)] [.int u3, .ref (t + 2)]) (fun u3 M4 hf k => h.callSN (As := [.int (((M.1 t 4) - u1) + x1_), .int (128 : Int32)]) (rest := [.ref (t + 2)]) (c_X10_mod hW hf) lm_X10_mod ls_m_X10_mod 26 rfl rfl rfl (Nat.le_of_ble_eq_true rfl) (by decide) dX4_sampleAt_18 rfl k) (fun u3 M4 => ?_)
  refine E.bnd (fun u5 M6 => w M6 24 [(0, .ref t), (1, .int x1_)] [.int u5]) (fun u5 M6 hf k => h.callSN (As := [.ref (t + 2), .int u3]) (rest := []) (c_X10_at hW (hW.clo 13 h0 rfl) hf) lm_X10_at ls_m_X10_at 29 rfl rfl rfl (Nat.le_of_ble_eq_true rfl) (by decide) dX4_sampleAt_21 rfl k) (fun u5 M6 => ?_)
  exact E.some (ret_i hr rfl dX4_sampleAt_24)
def l_X4_longRows_13 (t : Nat) (x1_ : Int32) (x2_ : Int32) (k4 : Int32) (k5 : Int32) (k6 : Int32) (M7 : Mem) : Option ((Int32 × Int32 × Int32 × Mem) ⊕ (Int32 × Mem)) :=
  if k6 < (-1 : Int32) then (jn1 (fun z8 => some (.inr (z8, M7))) (fun J75 => if x2_ = (-1 : Int32) then (J75 k4) else (J75 (-1 : Int32)))) else (jn3 (fun z9 z10 M11 => nm (k6 + (-1 : Int32)) (fun y12 => some (.inl (z9, z10, y12, M11)))) (fun J59 => jn1 (fun M13 => jn1 (fun z14 => J59 z14 (0 : Int32) M13) (fun J56 => if k5 < x1_ then (J56 k4) else (if k4 = x2_ then (some (.inr (k5, M13))) else (nm (k4 + (1 : Int32)) (fun y15 => J56 y15))))) (fun J39 => if k6 < 0 then (J39 M7) else (bd (f_X4_latestIsFilled t k6 M7) (fun u16 M17 => if u16 = 0 then (J39 M17) else (nm (k5 + (1 : Int32)) (fun y18 => J59 k4 y18 M17)))))))
def f_X4_longRows (t : Nat) (x1_ : Int32) (x2_ : Int32) (M : Mem) : Option (Int32 × Mem) :=
  bd (f_X4_octetsKept t M) (fun u1 M2 => nm (u1 - (1 : Int32)) (fun y3 => lop4 FU (l_X4_longRows_13 t x1_ x2_) (0 : Int32) (0 : Int32) y3 M2))
set_option maxRecDepth 20000 in
theorem c_X4_longRows {G : Ctx} (hW : WFG G) {t : Nat} {x1_ : Int32} {x2_ : Int32} {M M' : Mem} {r : Int32} (h0 : hs G t (0, 4)) (hf : f_X4_longRows t x1_ x2_ M = some (r, M')) : Ct G yX4_longRows cX4_longRows 6 (some .int) 3 64 [.ref t, .int x1_, .int x2_] M (some (.int r)) M' := by
  refine ct_i hW (by decide +kernel) (Nat.le_of_ble_eq_true rfl) (fun w h hr => ?_)
  have h : Rb G cX4_longRows RX4 6 3 64 w := h
  refine (?_ : E (fun q => q = (r, M')) (f_X4_longRows t x1_ x2_ M) (w M 0 [(0, .ref t), (1, .int x1_), (2, .int x2_)] [])) _ hf rfl
  unfold f_X4_longRows
  refine E.m (h.iconst (v := (0 : Int32)) dX4_longRows_0 (by decide)) ?_
  refine E.m (h.istore_n dX4_longRows_1 (by decide) rfl) ?_
  refine E.m (h.iconst (v := (0 : Int32)) dX4_longRows_2 (by decide)) ?_
  refine E.m (h.istore dX4_longRows_3 (by decide) rfl) ?_
  refine E.m (h.aload_n 2 dX4_longRows_5 rfl) ?_
  refine E.bnd (fun u1 M2 => w M2 9 [(4, .int (0 : Int32)), (3, .int (0 : Int32)), (0, .ref t), (1, .int x1_), (2, .int x2_)] [.int u1]) (fun u1 M2 hf k => h.callV (As := []) (rest := []) (c_X4_octetsKept hW h0 hf) lm_X4_octetsKept lv_m_X4_octetsKept ll_RX4_51 h0 lc_4 rfl rfl (Nat.le_of_ble_eq_true rfl) (by decide) dX4_longRows_6 rfl k) (fun u1 M2 => ?_)
  refine E.m (h.iconst (v := (1 : Int32)) dX4_longRows_9 (by decide)) ?_
  refine E.m (h.isub dX4_longRows_10) ?_
  refine E.m (h.istore dX4_longRows_11 (by decide) rfl) ?_
  refine E.nmL (fun y3 => ?_)
  refine E.m (h.sub [3, 4, 5, 2, 1, 0] rfl) ?_
  refine E.loop4 (fun k4 k5 k6 M7 => w M7 13 [(0, .ref t), (1, .int x1_), (2, .int x2_), (3, .int k4), (4, .int k5), (5, .int k6)] []) (fun k4 k5 k6 M7 => ?_) _ _ _ _ _
  unfold l_X4_longRows_13
  refine E.m (h.iload 5 dX4_longRows_13 rfl) ?_
  refine E.m (h.iconst (v := (-1 : Int32)) dX4_longRows_15 (by decide)) ?_
  refine E.br (fun k1 k2 => h.icmp_lt (tgt := 65) dX4_longRows_16 (by decide) k1 k2) ?_ ?_
  · refine E.m (h.iload_n 2 dX4_longRows_65 rfl) ?_
    refine E.m (h.iconst (v := (-1 : Int32)) dX4_longRows_66 (by decide)) ?_
    refine E.join1 (fun z8 => w M7 75 [(0, .ref t), (1, .int x1_), (2, .int x2_), (3, .int k4), (4, .int k5), (5, .int k6)] [.int z8]) (fun z8 => ?_) (fun J75 hJ75 => ?_)
    · exact E.some (ret_i hr rfl dX4_longRows_75)
    refine E.br (fun k1 k2 => h.icmp_ne (tgt := 74) dX4_longRows_67 (by decide) k2 k1) ?_ ?_
    · refine E.m (h.iload_n 3 dX4_longRows_70 rfl) ?_
      refine E.m (h.goto (tgt := 75) dX4_longRows_71 (by decide)) ?_
      exact hJ75 _
    · refine E.m (h.iconst (v := (-1 : Int32)) dX4_longRows_74 (by decide)) ?_
      exact hJ75 _
  · refine E.m (h.iload 5 dX4_longRows_19 rfl) ?_
    refine E.join3 (fun z9 z10 M11 => w M11 59 [(0, .ref t), (1, .int x1_), (2, .int x2_), (3, .int z9), (4, .int z10), (5, .int k6)] []) (fun z9 z10 M11 => ?_) (fun J59 hJ59 => ?_)
    · refine E.m (h.iinc (v := (-1 : Int32)) 5 dX4_longRows_59 rfl (by decide) (by decide) rfl) ?_
      refine E.nmL (fun y12 => ?_)
      refine E.m (h.goto (tgt := 13) dX4_longRows_62 (by decide)) ?_
      refine E.m (h.sub [1, 2, 3, 4, 5, 0] rfl) ?_
      exact E.some (fun q => q)
    refine E.join1 (fun M13 => w M13 39 [(0, .ref t), (1, .int x1_), (2, .int x2_), (3, .int k4), (4, .int k5), (5, .int k6)] []) (fun M13 => ?_) (fun J39 hJ39 => ?_)
    · refine E.m (h.iload 4 dX4_longRows_39 rfl) ?_
      refine E.m (h.iload_n 1 dX4_longRows_41 rfl) ?_
      refine E.join1 (fun z14 => w M13 56 [(0, .ref t), (1, .int x1_), (2, .int x2_), (3, .int z14), (4, .int k5), (5, .int k6)] []) (fun z14 => ?_) (fun J56 hJ56 => ?_)
      · refine E.m (h.iconst (v := (0 : Int32)) dX4_longRows_56 (by decide)) ?_
        refine E.m (h.istore dX4_longRows_57 (by decide) rfl) ?_
        refine E.m (h.sub [1, 2, 3, 4, 0, 5] rfl) ?_
        exact hJ59 _ _ _
      refine E.br (fun k1 k2 => h.icmp_lt (tgt := 56) dX4_longRows_42 (by decide) k1 k2) ?_ ?_
      · exact hJ56 _
      · refine E.m (h.iload_n 3 dX4_longRows_45 rfl) ?_
        refine E.m (h.iload_n 2 dX4_longRows_46 rfl) ?_
        refine E.br (fun k1 k2 => h.icmp_ne (tgt := 53) dX4_longRows_47 (by decide) k2 k1) ?_ ?_
        · refine E.m (h.iload 4 dX4_longRows_50 rfl) ?_
          exact E.some (ret_i hr rfl dX4_longRows_52)
        · refine E.m (h.iinc (v := (1 : Int32)) 3 dX4_longRows_53 rfl (by decide) (by decide) rfl) ?_
          refine E.nmL (fun y15 => ?_)
          refine E.m (h.sub [1, 2, 3, 0, 4, 5] rfl) ?_
          exact hJ56 _
    refine E.br (fun k1 k2 => h.if_lt (tgt := 39) dX4_longRows_21 (by decide) k1 k2) ?_ ?_
    · exact hJ39 _
    · refine E.m (h.aload_n 0 dX4_longRows_24 rfl) ?_
      refine E.m (h.iload 5 dX4_longRows_25 rfl) ?_
      refine E.bnd (fun u16 M17 => w M17 30 [(0, .ref t), (1, .int x1_), (2, .int x2_), (3, .int k4), (4, .int k5), (5, .int k6)] [.int u16]) (fun u16 M17 hf k => h.callV (As := [.int k6]) (rest := []) (c_X4_latestIsFilled hW h0 hf) lm_X4_latestIsFilled lv_m_X4_latestIsFilled ll_RX4_62 h0 lc_4 rfl rfl (Nat.le_of_ble_eq_true rfl) (by decide) dX4_longRows_27 rfl k) (fun u16 M17 => ?_)
      refine E.br (fun k1 k2 => h.if_eq (tgt := 39) dX4_longRows_30 (by decide) k1 k2) ?_ ?_
      · exact hJ39 _
      · refine E.m (h.iinc (v := (1 : Int32)) 4 dX4_longRows_33 rfl (by decide) (by decide) rfl) ?_
        refine E.nmL (fun y18 => ?_)
        refine E.m (h.goto (tgt := 59) dX4_longRows_36 (by decide)) ?_
        refine E.m (h.sub [1, 2, 3, 4, 0, 5] rfl) ?_
        exact hJ59 _ _ _
def l_X4_widthOf_14 (t : Nat) (x1_ : Int32) (x2_ : Int32) (k4 : Int32) (k5 : Int32) (k6 : Int32) (M7 : Mem) : Option ((Int32 × Int32 × Int32 × Mem) ⊕ (Int32 × Mem)) :=
  if (x1_ + x2_) ≤ k6 then (some (.inr (k4 - k5, M7))) else (bd (f_X4_sampleAt t k6 M7) (fun u8 M9 => bd (f_J9_max_7cf53 k4 u8 M9) (fun u10 M11 => bd (f_J9_min_7cf53 k5 u8 M11) (fun u12 M13 => nm (k6 + (1 : Int32)) (fun y14 => some (.inl (u10, u12, y14, M13)))))))
def f_X4_widthOf (t : Nat) (x1_ : Int32) (x2_ : Int32) (M : Mem) : Option (Int32 × Mem) :=
  bd (f_X4_sampleAt t x1_ M) (fun u1 M2 => nm (x1_ + (1 : Int32)) (fun y3 => lop4 FU (l_X4_widthOf_14 t x1_ x2_) u1 u1 y3 M2))
set_option maxRecDepth 20000 in
theorem c_X4_widthOf {G : Ctx} (hW : WFG G) {t : Nat} {x1_ : Int32} {x2_ : Int32} {M M' : Mem} {r : Int32} (h0 : hs G t (0, 4)) (hf : f_X4_widthOf t x1_ x2_ M = some (r, M')) : Ct G yX4_widthOf cX4_widthOf 7 (some .int) 3 64 [.ref t, .int x1_, .int x2_] M (some (.int r)) M' := by
  refine ct_i hW (by decide +kernel) (Nat.le_of_ble_eq_true rfl) (fun w h hr => ?_)
  have h : Rb G cX4_widthOf RX4 7 3 64 w := h
  refine (?_ : E (fun q => q = (r, M')) (f_X4_widthOf t x1_ x2_ M) (w M 0 [(0, .ref t), (1, .int x1_), (2, .int x2_)] [])) _ hf rfl
  unfold f_X4_widthOf
  refine E.m (h.aload_n 0 dX4_widthOf_0 rfl) ?_
  refine E.m (h.iload_n 1 dX4_widthOf_1 rfl) ?_
  refine E.bnd (fun u1 M2 => w M2 5 [(0, .ref t), (1, .int x1_), (2, .int x2_)] [.int u1]) (fun u1 M2 hf k => h.callV (As := [.int x1_]) (rest := []) (c_X4_sampleAt hW h0 hf) lm_X4_sampleAt lv_m_X4_sampleAt ll_RX4_72 h0 lc_4 rfl rfl (Nat.le_of_ble_eq_true rfl) (by decide) dX4_widthOf_2 rfl k) (fun u1 M2 => ?_)
  refine E.m (h.istore_n dX4_widthOf_5 (by decide) rfl) ?_
  refine E.m (h.iload_n 0 dX4_widthOf_6 rfl) ?_
  refine E.m (h.istore dX4_widthOf_7 (by decide) rfl) ?_
  refine E.m (h.iload_n 3 dX4_widthOf_9 rfl) ?_
  refine E.m (h.iconst (v := (1 : Int32)) dX4_widthOf_10 (by decide)) ?_
  refine E.m (h.iadd dX4_widthOf_11) ?_
  refine E.m (h.istore dX4_widthOf_12 (by decide) rfl) ?_
  refine E.nmL (fun y3 => ?_)
  refine E.m (h.sub [3, 4, 5, 2, 1, 0] rfl) ?_
  refine E.loop4 (fun k4 k5 k6 M7 => w M7 14 [(0, .ref t), (1, .int x1_), (2, .int x2_), (3, .int k4), (4, .int k5), (5, .int k6)] []) (fun k4 k5 k6 M7 => ?_) _ _ _ _ _
  unfold l_X4_widthOf_14
  refine E.m (h.iload 5 dX4_widthOf_14 rfl) ?_
  refine E.m (h.iload_n 1 dX4_widthOf_16 rfl) ?_
  refine E.m (h.iload_n 2 dX4_widthOf_17 rfl) ?_
  refine E.m (h.iadd dX4_widthOf_18) ?_
  refine E.br (fun k1 k2 => h.icmp_ge (tgt := 52) dX4_widthOf_19 (by decide) k1 k2) ?_ ?_
  · refine E.m (h.iload_n 3 dX4_widthOf_52 rfl) ?_
    refine E.m (h.iload 4 dX4_widthOf_53 rfl) ?_
    refine E.m (h.isub dX4_widthOf_55) ?_
    exact E.some (ret_i hr rfl dX4_widthOf_56)
  · refine E.m (h.aload_n 0 dX4_widthOf_22 rfl) ?_
    refine E.m (h.iload 5 dX4_widthOf_23 rfl) ?_
    refine E.bnd (fun u8 M9 => w M9 28 [(0, .ref t), (1, .int x1_), (2, .int x2_), (3, .int k4), (4, .int k5), (5, .int k6)] [.int u8]) (fun u8 M9 hf k => h.callV (As := [.int k6]) (rest := []) (c_X4_sampleAt hW h0 hf) lm_X4_sampleAt lv_m_X4_sampleAt ll_RX4_72 h0 lc_4 rfl rfl (Nat.le_of_ble_eq_true rfl) (by decide) dX4_widthOf_25 rfl k) (fun u8 M9 => ?_)
    refine E.m (h.istore dX4_widthOf_28 (by decide) rfl) ?_
    refine E.m (h.iload_n 4 dX4_widthOf_30 rfl) ?_
    refine E.m (h.iload 0 dX4_widthOf_31 rfl) ?_
    refine E.bnd (fun u10 M11 => w M11 36 [(6, .int u8), (0, .ref t), (1, .int x1_), (2, .int x2_), (3, .int k4), (4, .int k5), (5, .int k6)] [.int u10]) (fun u10 M11 hf k => h.callS (As := [.int k4, .int u8]) (rest := []) (c_J9_max_7cf53 hW hf) lm_J9_max_7cf53 ls_m_J9_max_7cf53 ll_RX4_69 rfl rfl (Nat.le_of_ble_eq_true rfl) (by decide) dX4_widthOf_33 rfl k) (fun u10 M11 => ?_)
    refine E.m (h.istore_n dX4_widthOf_36 (by decide) rfl) ?_
    refine E.m (h.iload 5 dX4_widthOf_37 rfl) ?_
    refine E.m (h.iload 1 dX4_widthOf_39 rfl) ?_
    refine E.bnd (fun u12 M13 => w M13 44 [(3, .int u10), (6, .int u8), (0, .ref t), (1, .int x1_), (2, .int x2_), (4, .int k5), (5, .int k6)] [.int u12]) (fun u12 M13 hf k => h.callS (As := [.int k5, .int u8]) (rest := []) (c_J9_min_7cf53 hW hf) lm_J9_min_7cf53 ls_m_J9_min_7cf53 ll_RX4_38 rfl rfl (Nat.le_of_ble_eq_true rfl) (by decide) dX4_widthOf_41 rfl k) (fun u12 M13 => ?_)
    refine E.m (h.istore dX4_widthOf_44 (by decide) rfl) ?_
    refine E.m (h.iinc (v := (1 : Int32)) 6 dX4_widthOf_46 rfl (by decide) (by decide) rfl) ?_
    refine E.nmL (fun y14 => ?_)
    refine E.m (h.goto (tgt := 14) dX4_widthOf_49 (by decide)) ?_
    refine E.m (h.sub [4, 5, 6, 2, 1, 0] rfl) ?_
    exact E.some (fun q => q)
def l_X4_widest_24 (t : Nat) (u1 : Int32) (u3 : Int32) (k5 : Int32) (k6 : Int32) (M7 : Mem) : Option ((Int32 × Int32 × Mem) ⊕ (Int32 × Mem)) :=
  if u1 < (k6 + u3) then (some (.inr (k5, M7))) else (bd (f_X4_widthOf t k6 u3 M7) (fun u8 M9 => bd (f_J9_max_7cf53 k5 u8 M9) (fun u10 M11 => nm (k6 + (1 : Int32)) (fun y12 => some (.inl (u10, y12, M11))))))
def f_X4_widest (t : Nat) (x1_ : Int32) (M : Mem) : Option (Int32 × Mem) :=
  bd (f_X4_samplesKept t M) (fun u1 M2 => if (2 : Int32) ≤ u1 then (bd (f_J9_min_7cf53 x1_ u1 M2) (fun u3 M4 => lop3 FU (l_X4_widest_24 t u1 u3) (0 : Int32) (0 : Int32) M4)) else (some ((-1 : Int32), M2)))
set_option maxRecDepth 20000 in
theorem c_X4_widest {G : Ctx} (hW : WFG G) {t : Nat} {x1_ : Int32} {M M' : Mem} {r : Int32} (h0 : hs G t (0, 4)) (hf : f_X4_widest t x1_ M = some (r, M')) : Ct G yX4_widest cX4_widest 6 (some .int) 4 90 [.ref t, .int x1_] M (some (.int r)) M' := by
  refine ct_i hW (by decide +kernel) (Nat.le_of_ble_eq_true rfl) (fun w h hr => ?_)
  have h : Rb G cX4_widest RX4 6 4 90 w := h
  refine (?_ : E (fun q => q = (r, M')) (f_X4_widest t x1_ M) (w M 0 [(0, .ref t), (1, .int x1_)] [])) _ hf rfl
  unfold f_X4_widest
  refine E.m (h.aload_n 0 dX4_widest_0 rfl) ?_
  refine E.bnd (fun u1 M2 => w M2 4 [(0, .ref t), (1, .int x1_)] [.int u1]) (fun u1 M2 hf k => h.callV (As := []) (rest := []) (c_X4_samplesKept hW h0 hf) lm_X4_samplesKept lv_m_X4_samplesKept ll_RX4_59 h0 lc_4 rfl rfl (Nat.le_of_ble_eq_true rfl) (by decide) dX4_widest_1 rfl k) (fun u1 M2 => ?_)
  refine E.m (h.istore_n dX4_widest_4 (by decide) rfl) ?_
  refine E.m (h.iload_n 0 dX4_widest_5 rfl) ?_
  refine E.m (h.iconst (v := (2 : Int32)) dX4_widest_6 (by decide)) ?_
  refine E.br (fun k1 k2 => h.icmp_ge (tgt := 12) dX4_widest_7 (by decide) k1 k2) ?_ ?_
  · refine E.m (h.iload_n 2 dX4_widest_12 rfl) ?_
    refine E.m (h.iload_n 0 dX4_widest_13 rfl) ?_
    refine E.bnd (fun u3 M4 => w M4 17 [(2, .int u1), (0, .ref t), (1, .int x1_)] [.int u3]) (fun u3 M4 hf k => h.callS (As := [.int x1_, .int u1]) (rest := []) (c_J9_min_7cf53 hW hf) lm_J9_min_7cf53 ls_m_J9_min_7cf53 ll_RX4_38 rfl rfl (Nat.le_of_ble_eq_true rfl) (by decide) dX4_widest_14 rfl k) (fun u3 M4 => ?_)
    refine E.m (h.istore_n dX4_widest_17 (by decide) rfl) ?_
    refine E.m (h.iconst (v := (0 : Int32)) dX4_widest_18 (by decide)) ?_
    refine E.m (h.istore dX4_widest_19 (by decide) rfl) ?_
    refine E.m (h.iconst (v := (0 : Int32)) dX4_widest_21 (by decide)) ?_
    refine E.m (h.istore dX4_widest_22 (by decide) rfl) ?_
    refine E.m (h.sub [4, 5, 3, 2, 1, 0] rfl) ?_
    refine E.loop3 (fun k5 k6 M7 => w M7 24 [(0, .ref t), (1, .int x1_), (2, .int u1), (3, .int u3), (4, .int k5), (5, .int k6)] []) (fun k5 k6 M7 => ?_) _ _ _ _
    unfold l_X4_widest_24
    refine E.m (h.iload 5 dX4_widest_24 rfl) ?_
    refine E.m (h.iload_n 3 dX4_widest_26 rfl) ?_
    refine E.m (h.iadd dX4_widest_27) ?_
    refine E.m (h.iload_n 2 dX4_widest_28 rfl) ?_
    refine E.br (fun k1 k2 => h.icmp_gt (tgt := 52) dX4_widest_29 (by decide) k1 k2) ?_ ?_
    · refine E.m (h.iload 4 dX4_widest_52 rfl) ?_
      exact E.some (ret_i hr rfl dX4_widest_54)
    · refine E.m (h.iload 4 dX4_widest_32 rfl) ?_
      refine E.m (h.aload_n 0 dX4_widest_34 rfl) ?_
      refine E.m (h.iload 5 dX4_widest_35 rfl) ?_
      refine E.m (h.iload_n 3 dX4_widest_37 rfl) ?_
      refine E.bnd (fun u8 M9 => w M9 41 [(0, .ref t), (1, .int x1_), (2, .int u1), (3, .int u3), (4, .int k5), (5, .int k6)] [.int u8, .int k5]) (fun u8 M9 hf k => h.callV (As := [.int k6, .int u3]) (rest := [.int k5]) (c_X4_widthOf hW h0 hf) lm_X4_widthOf lv_m_X4_widthOf ll_RX4_66 h0 lc_4 rfl rfl (Nat.le_of_ble_eq_true rfl) (by decide) dX4_widest_38 rfl k) (fun u8 M9 => ?_)
      refine E.bnd (fun u10 M11 => w M11 44 [(0, .ref t), (1, .int x1_), (2, .int u1), (3, .int u3), (4, .int k5), (5, .int k6)] [.int u10]) (fun u10 M11 hf k => h.callS (As := [.int k5, .int u8]) (rest := []) (c_J9_max_7cf53 hW hf) lm_J9_max_7cf53 ls_m_J9_max_7cf53 ll_RX4_69 rfl rfl (Nat.le_of_ble_eq_true rfl) (by decide) dX4_widest_41 rfl k) (fun u10 M11 => ?_)
      refine E.m (h.istore dX4_widest_44 (by decide) rfl) ?_
      refine E.m (h.iinc (v := (1 : Int32)) 5 dX4_widest_46 rfl (by decide) (by decide) rfl) ?_
      refine E.nmL (fun y12 => ?_)
      refine E.m (h.goto (tgt := 24) dX4_widest_49 (by decide)) ?_
      refine E.m (h.sub [2, 3, 4, 5, 1, 0] rfl) ?_
      exact E.some (fun q => q)
  · refine E.m (h.iconst (v := (-1 : Int32)) dX4_widest_10 (by decide)) ?_
    exact E.some (ret_i hr rfl dX4_widest_11)
def f_X5_begin (t : Nat) (r1_ : Nat) (M : Mem) : Option (Unit × Mem) :=
  nm (wi M t 0 (0 : Int32)) (fun M1 => nm (wi M1 t 1 (M1.1 r1_ 1)) (fun M2 => nm (wi M2 t 2 (0 : Int32)) (fun M3 => nm (wi M3 t 3 (M3.1 r1_ 2)) (fun M4 => nm (wi M4 t 4 (M4.1 r1_ 3)) (fun M5 => bd (f_X5_clearLoop t M5) (fun _ M7 => nm (wi M7 t 9 (0 : Int32)) (fun M8 => bd (f_X0_begin (t + 1) M8) (fun _ M10 => bd (f_X4_begin (t + 4) M10) (fun _ M12 => some ((), M12))))))))))
set_option maxRecDepth 20000 in
theorem c_X5_begin {G : Ctx} (hW : WFG G) {t : Nat} {r1_ : Nat} {M M' : Mem} (h0 : hs G t (0, 5)) (h1 : hs G r1_ (0, 3)) (hf : f_X5_begin t r1_ M = some ((), M')) : Ct G yX5_begin cX5_begin 2 none 3 63 [.ref t, .ref r1_] M none M' := by
  refine ct_v hW (by decide +kernel) (Nat.le_of_ble_eq_true rfl) (fun w h hr => ?_)
  have h : Rb G cX5_begin RX5 2 3 63 w := h
  refine (?_ : E (fun q => q = ((), M')) (f_X5_begin t r1_ M) (w M 0 [(0, .ref t), (1, .ref r1_)] [])) _ hf rfl
  unfold f_X5_begin
  refine E.m (h.aload_n 0 dX5_begin_0 rfl) ?_
  refine E.m (h.iconst (v := (0 : Int32)) dX5_begin_1 (by decide)) ?_
  refine E.m (h.puti h0 lp_RX5_25 rfl dX5_begin_2) ?_
  refine E.nmM (fun M1 => ?_)
  refine E.m (h.aload_n 0 dX5_begin_5 rfl) ?_
  refine E.m (h.aload_n 1 dX5_begin_6 rfl) ?_
  refine E.m (h.get h1 lf_RX5_29 dX5_begin_7 fv_3_1) ?_
  refine E.m (h.puti h0 lp_RX5_34 rfl dX5_begin_10) ?_
  refine E.nmM (fun M2 => ?_)
  refine E.m (h.aload_n 0 dX5_begin_13 rfl) ?_
  refine E.m (h.iconst (v := (0 : Int32)) dX5_begin_14 (by decide)) ?_
  refine E.m (h.puti h0 lp_RX5_35 rfl dX5_begin_15) ?_
  refine E.nmM (fun M3 => ?_)
  refine E.m (h.aload_n 0 dX5_begin_18 rfl) ?_
  refine E.m (h.aload_n 1 dX5_begin_19 rfl) ?_
  refine E.m (h.get h1 lf_RX5_38 dX5_begin_20 fv_3_2) ?_
  refine E.m (h.puti h0 lp_RX5_41 rfl dX5_begin_23) ?_
  refine E.nmM (fun M4 => ?_)
  refine E.m (h.aload_n 0 dX5_begin_26 rfl) ?_
  refine E.m (h.aload_n 1 dX5_begin_27 rfl) ?_
  refine E.m (h.get h1 lf_RX5_42 dX5_begin_28 fv_3_3) ?_
  refine E.m (h.puti h0 lp_RX5_45 rfl dX5_begin_31) ?_
  refine E.nmM (fun M5 => ?_)
  refine E.m (h.aload_n 0 dX5_begin_34 rfl) ?_
  refine E.bnd (fun _ M7 => w M7 38 [(0, .ref t), (1, .ref r1_)] []) (fun _ M7 hf k => h.callV (As := []) (rest := []) (c_X5_clearLoop hW h0 hf) lm_X5_clearLoop lv_m_X5_clearLoop ll_RX5_46 h0 lc_5 rfl rfl (Nat.le_of_ble_eq_true rfl) (by decide) dX5_begin_35 rfl k) (fun _ M7 => ?_)
  refine E.m (h.aload_n 0 dX5_begin_38 rfl) ?_
  refine E.m (h.iconst (v := (0 : Int32)) dX5_begin_39 (by decide)) ?_
  refine E.m (h.puti h0 lp_RX5_49 rfl dX5_begin_40) ?_
  refine E.nmM (fun M8 => ?_)
  refine E.m (h.aload_n 0 dX5_begin_43 rfl) ?_
  refine E.m (h.get h0 lf_RX5_12 dX5_begin_44 fv_5_10) ?_
  refine E.bnd (fun _ M10 => w M10 50 [(0, .ref t), (1, .ref r1_)] []) (fun _ M10 hf k => h.callV (As := []) (rest := []) (c_X0_begin hW (hW.clo 14 h0 rfl) hf) lm_X0_begin lv_m_X0_begin ll_RX5_52 (hW.clo 14 h0 rfl) lc_0 rfl rfl (Nat.le_of_ble_eq_true rfl) (by decide) dX5_begin_47 rfl k) (fun _ M10 => ?_)
  refine E.m (h.aload_n 0 dX5_begin_50 rfl) ?_
  refine E.m (h.get h0 lf_RX5_21 dX5_begin_51 fv_5_11) ?_
  refine E.bnd (fun _ M12 => w M12 57 [(0, .ref t), (1, .ref r1_)] []) (fun _ M12 hf k => h.callV (As := []) (rest := []) (c_X4_begin hW (hW.clo 15 h0 rfl) hf) lm_X4_begin lv_m_X4_begin ll_RX5_55 (hW.clo 15 h0 rfl) lc_4 rfl rfl (Nat.le_of_ble_eq_true rfl) (by decide) dX5_begin_54 rfl k) (fun _ M12 => ?_)
  exact E.some (ret_v hr dX5_begin_57)
def f_X5_regained (t : Nat) (x1_ : Int32) (M : Mem) : Option (Int32 × Mem) :=
  jn0 (fun _ => some ((10000 : Int32), M)) (fun J17 => if (M.1 t 0) = 0 then (J17 ()) else (if (M.1 (t + 1) 3) = 0 then (J17 ()) else (bd (f_X0_spread (t + 1) M) (fun u1 M2 => bd (f_X10_by (((1000 : Int32) * x1_) * u1) (M2.1 (t + 1) 3) M2) (fun u3 M4 => some (u3 - (1000 : Int32), M4))))))
set_option maxRecDepth 20000 in
theorem c_X5_regained {G : Ctx} (hW : WFG G) {t : Nat} {x1_ : Int32} {M M' : Mem} {r : Int32} (h0 : hs G t (0, 5)) (hf : f_X5_regained t x1_ M = some (r, M')) : Ct G yX5_regained cX5_regained 2 (some .int) 1 21 [.ref t, .int x1_] M (some (.int r)) M' := by
  refine ct_i hW (by decide +kernel) (Nat.le_of_ble_eq_true rfl) (fun w h hr => ?_)
  have h : Rb G cX5_regained RX5 2 1 21 w := h
  refine (?_ : E (fun q => q = (r, M')) (f_X5_regained t x1_ M) (w M 0 [(0, .ref t), (1, .int x1_)] [])) _ hf rfl
  unfold f_X5_regained
  refine E.m (h.aload_n 0 dX5_regained_0 rfl) ?_
  refine E.m (h.get h0 lf_RX5_25 dX5_regained_1 fv_5_0) ?_
  refine E.join0 (fun _ => w M 17 [(0, .ref t), (1, .int x1_)] []) (fun _ => ?_) (fun J17 hJ17 => ?_)
  · refine E.m (h.sipush (v := (10000 : Int32)) dX5_regained_17 (by decide)) ?_
    exact E.some (ret_i hr rfl dX5_regained_20)
  refine E.br (fun k1 k2 => h.if_eq (tgt := 17) dX5_regained_4 (by decide) k1 k2) ?_ ?_
  · exact hJ17 ()
  · refine E.m (h.aload_n 0 dX5_regained_7 rfl) ?_
    refine E.m (h.get h0 lf_RX5_12 dX5_regained_8 fv_5_10) ?_
    refine E.m (h.get (hW.clo 14 h0 rfl) lf_RX5_79 dX5_regained_11 fv_0_3) ?_
    refine E.br (fun k1 k2 => h.if_ne (tgt := 21) dX5_regained_14 (by decide) k2 k1) ?_ ?_
    · exact hJ17 ()
    · refine E.m (h.sipush (v := (1000 : Int32)) dX5_regained_21 (by decide)) ?_
      refine E.m (h.iload_n 1 dX5_regained_24 rfl) ?_
      refine E.m (h.imul dX5_regained_25) ?_
      refine E.m (h.aload_n 0 dX5_regained_26 rfl) ?_
      refine E.m (h.get h0 lf_RX5_12 dX5_regained_27 fv_5_10) ?_
      refine E.bnd (fun u1 M2 => w M2 33 [(0, .ref t), (1, .int x1_)] [.int u1, .int ((1000 : Int32) * x1_)]) (fun u1 M2 hf k => h.callV (As := []) (rest := [.int ((1000 : Int32) * x1_)]) (c_X0_spread hW (hW.clo 14 h0 rfl) hf) lm_X0_spread lv_m_X0_spread ll_RX5_82 (hW.clo 14 h0 rfl) lc_0 rfl rfl (Nat.le_of_ble_eq_true rfl) (by decide) dX5_regained_30 rfl k) (fun u1 M2 => ?_)
      refine E.m (h.imul dX5_regained_33) ?_
      refine E.m (h.aload_n 0 dX5_regained_34 rfl) ?_
      refine E.m (h.get h0 lf_RX5_12 dX5_regained_35 fv_5_10) ?_
      refine E.m (h.get (hW.clo 14 h0 rfl) lf_RX5_79 dX5_regained_38 fv_0_3) ?_
      refine E.bnd (fun u3 M4 => w M4 44 [(0, .ref t), (1, .int x1_)] [.int u3]) (fun u3 M4 hf k => h.callSN (As := [.int (((1000 : Int32) * x1_) * u1), .int (M2.1 (t + 1) 3)]) (rest := []) (c_X10_by hW hf) lm_X10_by ls_m_X10_by 37 rfl rfl rfl (Nat.le_of_ble_eq_true rfl) (by decide) dX5_regained_41 rfl k) (fun u3 M4 => ?_)
      refine E.m (h.sipush (v := (1000 : Int32)) dX5_regained_44 (by decide)) ?_
      refine E.m (h.isub dX5_regained_47) ?_
      exact E.some (ret_i hr rfl dX5_regained_48)
def f_X7_add (t : Nat) (x1_ : Int32) (M : Mem) : Option (Unit × Mem) :=
  bd (f_X10_put (t + 1) 700 (M.1 t 1) x1_ M) (fun _ M2 => nm (wi M2 t 1 ((M2.1 t 1) + (1 : Int32))) (fun M3 => some ((), M3)))
set_option maxRecDepth 20000 in
theorem c_X7_add {G : Ctx} (hW : WFG G) {t : Nat} {x1_ : Int32} {M M' : Mem} (h0 : hs G t (0, 7)) (hf : f_X7_add t x1_ M = some ((), M')) : Ct G yX7_add cX7_add 2 none 1 22 [.ref t, .int x1_] M none M' := by
  refine ct_v hW (by decide +kernel) (Nat.le_of_ble_eq_true rfl) (fun w h hr => ?_)
  have h : Rb G cX7_add RX7 2 1 22 w := h
  refine (?_ : E (fun q => q = ((), M')) (f_X7_add t x1_ M) (w M 0 [(0, .ref t), (1, .int x1_)] [])) _ hf rfl
  unfold f_X7_add
  refine E.m (h.aload_n 0 dX7_add_0 rfl) ?_
  refine E.m (h.get h0 lf_RX7_9 dX7_add_1 fv_7_0) ?_
  refine E.m (h.aload_n 0 dX7_add_4 rfl) ?_
  refine E.m (h.get h0 lf_RX7_18 dX7_add_5 fv_7_1) ?_
  refine E.m (h.iload_n 1 dX7_add_8 rfl) ?_
  refine E.bnd (fun _ M2 => w M2 12 [(0, .ref t), (1, .int x1_)] []) (fun _ M2 hf k => h.callSN (As := [.ref (t + 1), .int (M.1 t 1), .int x1_]) (rest := []) (c_X10_put hW (hW.clo 23 h0 rfl) hf) lm_X10_put ls_m_X10_put 16 rfl rfl rfl (Nat.le_of_ble_eq_true rfl) (by decide) dX7_add_9 rfl k) (fun _ M2 => ?_)
  refine E.m (h.aload_n 0 dX7_add_12 rfl) ?_
  refine E.m (h.dup dX7_add_13 rfl) ?_
  refine E.m (h.get h0 lf_RX7_18 dX7_add_14 fv_7_1) ?_
  refine E.m (h.iconst (v := (1 : Int32)) dX7_add_17 (by decide)) ?_
  refine E.m (h.iadd dX7_add_18) ?_
  refine E.m (h.puti h0 lp_RX7_18 rfl dX7_add_19) ?_
  refine E.nmM (fun M3 => ?_)
  exact E.some (ret_v hr dX7_add_22)
def f_X9_begin (t : Nat) (r1_ : Nat) (M : Mem) : Option (Unit × Mem) :=
  nm (wi M t 0 (0 : Int32)) (fun M1 => bd (f_X1_begin (t + 1) r1_ M1) (fun _ M3 => bd (f_X5_begin (t + 5) r1_ M3) (fun _ M5 => some ((), M5))))
set_option maxRecDepth 20000 in
theorem c_X9_begin {G : Ctx} (hW : WFG G) {t : Nat} {r1_ : Nat} {M M' : Mem} (h0 : hs G t (0, 9)) (h1 : hs G r1_ (0, 3)) (hf : f_X9_begin t r1_ M = some ((), M')) : Ct G yX9_begin cX9_begin 2 none 4 84 [.ref t, .ref r1_] M none M' := by
  refine ct_v hW (by decide +kernel) (Nat.le_of_ble_eq_true rfl) (fun w h hr => ?_)
  have h : Rb G cX9_begin RX9 2 4 84 w := h
  refine (?_ : E (fun q => q = ((), M')) (f_X9_begin t r1_ M) (w M 0 [(0, .ref t), (1, .ref r1_)] [])) _ hf rfl
  unfold f_X9_begin
  refine E.m (h.aload_n 0 dX9_begin_0 rfl) ?_
  refine E.m (h.iconst (v := (0 : Int32)) dX9_begin_1 (by decide)) ?_
  refine E.m (h.puti h0 lp_RX9_25 rfl dX9_begin_2) ?_
  refine E.nmM (fun M1 => ?_)
  refine E.m (h.aload_n 0 dX9_begin_5 rfl) ?_
  refine E.m (h.get h0 lf_RX9_12 dX9_begin_6 fv_9_1) ?_
  refine E.m (h.aload_n 1 dX9_begin_9 rfl) ?_
  refine E.bnd (fun _ M3 => w M3 13 [(0, .ref t), (1, .ref r1_)] []) (fun _ M3 hf k => h.callV (As := [.ref r1_]) (rest := []) (c_X1_begin hW (hW.clo 32 h0 rfl) h1 hf) lm_X1_begin lv_m_X1_begin ll_RX9_29 (hW.clo 32 h0 rfl) lc_1 rfl rfl (Nat.le_of_ble_eq_true rfl) (by decide) dX9_begin_10 rfl k) (fun _ M3 => ?_)
  refine E.m (h.aload_n 0 dX9_begin_13 rfl) ?_
  refine E.m (h.get h0 lf_RX9_21 dX9_begin_14 fv_9_2) ?_
  refine E.m (h.aload_n 1 dX9_begin_17 rfl) ?_
  refine E.bnd (fun _ M5 => w M5 21 [(0, .ref t), (1, .ref r1_)] []) (fun _ M5 hf k => h.callV (As := [.ref r1_]) (rest := []) (c_X5_begin hW (hW.clo 33 h0 rfl) h1 hf) lm_X5_begin lv_m_X5_begin ll_RX9_33 (hW.clo 33 h0 rfl) lc_5 rfl rfl (Nat.le_of_ble_eq_true rfl) (by decide) dX9_begin_18 rfl k) (fun _ M5 => ?_)
  exact E.some (ret_v hr dX9_begin_21)
def f_X10_canTurn (x1_ : Int32) (x2_ : Int32) (M : Mem) : Option (Int32 × Mem) :=
  if x1_ = 0 then (jn1 (fun z2 => gdp (z2 = 0 ∨ z2 = 1) (some (z2, M))) (fun J21 => jn0 (fun _ => J21 (0 : Int32)) (fun J20 => if x2_ < (-99 : Int32) then (J20 ()) else (if (99 : Int32) < x2_ then (J20 ()) else (J21 (1 : Int32)))))) else (jn1 (fun z1 => gdp (z1 = 0 ∨ z1 = 1) (some (z1, M))) (fun J60 => if x1_ = (1 : Int32) then (jn0 (fun _ => J60 (0 : Int32)) (fun J40 => if x2_ < 0 then (J40 ()) else (if (2 : Int32) < x2_ then (J40 ()) else (J60 (1 : Int32))))) else (jn0 (fun _ => J60 (0 : Int32)) (fun J59 => if x2_ < (1 : Int32) then (J59 ()) else (if (64 : Int32) < x2_ then (J59 ()) else (J60 (1 : Int32)))))))
set_option maxRecDepth 20000 in
theorem c_X10_canTurn {G : Ctx} (hW : WFG G) {x1_ : Int32} {x2_ : Int32} {M M' : Mem} {r : Int32} (hf : f_X10_canTurn x1_ x2_ M = some (r, M')) : Ct G yX10_canTurn cX10_canTurn 2 (some .boolean) 0 0 [.int x1_, .int x2_] M (some (.int r)) M' := by
  refine ct_i hW (by decide +kernel) (Nat.le_of_ble_eq_true rfl) (fun w h hr => ?_)
  have h : Rb G cX10_canTurn RX10 2 0 0 w := h
  refine (?_ : E (fun q => q = (r, M')) (f_X10_canTurn x1_ x2_ M) (w M 0 [(0, .int x1_), (1, .int x2_)] [])) _ hf rfl
  unfold f_X10_canTurn
  refine E.m (h.iload_n 0 dX10_canTurn_0 rfl) ?_
  refine E.br (fun k1 k2 => h.if_ne (tgt := 22) dX10_canTurn_1 (by decide) k2 k1) ?_ ?_
  · refine E.m (h.iload_n 1 dX10_canTurn_4 rfl) ?_
    refine E.m (h.bipush (v := (-99 : Int32)) dX10_canTurn_5 (by decide)) ?_
    refine E.join1 (fun z2 => w M 21 [(0, .int x1_), (1, .int x2_)] [.int z2]) (fun z2 => ?_) (fun J21 hJ21 => ?_)
    · refine E.gd (fun hc k => k hc) (fun hc => E.imp fun hc => ?_)
      exact E.some (ret_i hr (bl_n hc).1 dX10_canTurn_21)
    refine E.join0 (fun _ => w M 20 [(0, .int x1_), (1, .int x2_)] []) (fun _ => ?_) (fun J20 hJ20 => ?_)
    · refine E.m (h.iconst (v := (0 : Int32)) dX10_canTurn_20 (by decide)) ?_
      exact hJ21 _
    refine E.br (fun k1 k2 => h.icmp_lt (tgt := 20) dX10_canTurn_7 (by decide) k1 k2) ?_ ?_
    · exact hJ20 ()
    · refine E.m (h.iload_n 1 dX10_canTurn_10 rfl) ?_
      refine E.m (h.bipush (v := (99 : Int32)) dX10_canTurn_11 (by decide)) ?_
      refine E.br (fun k1 k2 => h.icmp_gt (tgt := 20) dX10_canTurn_13 (by decide) k1 k2) ?_ ?_
      · exact hJ20 ()
      · refine E.m (h.iconst (v := (1 : Int32)) dX10_canTurn_16 (by decide)) ?_
        refine E.m (h.goto (tgt := 21) dX10_canTurn_17 (by decide)) ?_
        exact hJ21 _
  · refine E.m (h.iload_n 0 dX10_canTurn_22 rfl) ?_
    refine E.m (h.iconst (v := (1 : Int32)) dX10_canTurn_23 (by decide)) ?_
    refine E.join1 (fun z1 => w M 60 [(0, .int x1_), (1, .int x2_)] [.int z1]) (fun z1 => ?_) (fun J60 hJ60 => ?_)
    · refine E.gd (fun hc k => k hc) (fun hc => E.imp fun hc => ?_)
      exact E.some (ret_i hr (bl_n hc).1 dX10_canTurn_60)
    refine E.br (fun k1 k2 => h.icmp_ne (tgt := 44) dX10_canTurn_24 (by decide) k2 k1) ?_ ?_
    · refine E.m (h.iload_n 1 dX10_canTurn_27 rfl) ?_
      refine E.join0 (fun _ => w M 40 [(0, .int x1_), (1, .int x2_)] []) (fun _ => ?_) (fun J40 hJ40 => ?_)
      · refine E.m (h.iconst (v := (0 : Int32)) dX10_canTurn_40 (by decide)) ?_
        refine E.m (h.goto (tgt := 60) dX10_canTurn_41 (by decide)) ?_
        exact hJ60 _
      refine E.br (fun k1 k2 => h.if_lt (tgt := 40) dX10_canTurn_28 (by decide) k1 k2) ?_ ?_
      · exact hJ40 ()
      · refine E.m (h.iload_n 1 dX10_canTurn_31 rfl) ?_
        refine E.m (h.iconst (v := (2 : Int32)) dX10_canTurn_32 (by decide)) ?_
        refine E.br (fun k1 k2 => h.icmp_gt (tgt := 40) dX10_canTurn_33 (by decide) k1 k2) ?_ ?_
        · exact hJ40 ()
        · refine E.m (h.iconst (v := (1 : Int32)) dX10_canTurn_36 (by decide)) ?_
          refine E.m (h.goto (tgt := 60) dX10_canTurn_37 (by decide)) ?_
          exact hJ60 _
    · refine E.m (h.iload_n 1 dX10_canTurn_44 rfl) ?_
      refine E.m (h.iconst (v := (1 : Int32)) dX10_canTurn_45 (by decide)) ?_
      refine E.join0 (fun _ => w M 59 [(0, .int x1_), (1, .int x2_)] []) (fun _ => ?_) (fun J59 hJ59 => ?_)
      · refine E.m (h.iconst (v := (0 : Int32)) dX10_canTurn_59 (by decide)) ?_
        exact hJ60 _
      refine E.br (fun k1 k2 => h.icmp_lt (tgt := 59) dX10_canTurn_46 (by decide) k1 k2) ?_ ?_
      · exact hJ59 ()
      · refine E.m (h.iload_n 1 dX10_canTurn_49 rfl) ?_
        refine E.m (h.bipush (v := (64 : Int32)) dX10_canTurn_50 (by decide)) ?_
        refine E.br (fun k1 k2 => h.icmp_gt (tgt := 59) dX10_canTurn_52 (by decide) k1 k2) ?_ ?_
        · exact hJ59 ()
        · refine E.m (h.iconst (v := (1 : Int32)) dX10_canTurn_55 (by decide)) ?_
          refine E.m (h.goto (tgt := 60) dX10_canTurn_56 (by decide)) ?_
          exact hJ60 _
