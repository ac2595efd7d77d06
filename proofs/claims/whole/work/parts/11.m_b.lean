theorem fv_2_0 {M : Mem} {a : Nat} : fvl M a 2 0 = .ref (a + 1) := rfl
theorem fv_2_1 {M : Mem} {a : Nat} : fvl M a 2 1 = .int (M.1 a 1) := rfl
theorem fv_2_2 {M : Mem} {a : Nat} : fvl M a 2 2 = .int (M.1 a 2) := rfl
theorem fv_8_5 {M : Mem} {a : Nat} : fvl M a 8 5 = .int (M.1 a 5) := rfl
theorem fv_8_6 {M : Mem} {a : Nat} : fvl M a 8 6 = .ref (a + 27) := rfl
theorem fv_8_7 {M : Mem} {a : Nat} : fvl M a 8 7 = .ref (a + 28) := rfl
theorem fv_8_0 {M : Mem} {a : Nat} : fvl M a 8 0 = .ref (a + 1) := rfl
theorem fv_2_6 {M : Mem} {a : Nat} : fvl M a 2 6 = .ref (a + 13) := rfl
theorem fv_2_8 {M : Mem} {a : Nat} : fvl M a 2 8 = .ref (a + 15) := rfl
theorem fv_2_7 {M : Mem} {a : Nat} : fvl M a 2 7 = .ref (a + 14) := rfl
theorem fv_2_3 {M : Mem} {a : Nat} : fvl M a 2 3 = .int (M.1 a 3) := rfl
theorem fv_2_4 {M : Mem} {a : Nat} : fvl M a 2 4 = .int (M.1 a 4) := rfl
theorem fv_2_5 {M : Mem} {a : Nat} : fvl M a 2 5 = .int (M.1 a 5) := rfl
theorem fv_8_1 {M : Mem} {a : Nat} : fvl M a 8 1 = .ref (a + 13) := rfl
theorem fv_8_2 {M : Mem} {a : Nat} : fvl M a 8 2 = .int (M.1 a 2) := rfl
theorem fv_8_3 {M : Mem} {a : Nat} : fvl M a 8 3 = .ref (a + 25) := rfl
theorem fv_8_4 {M : Mem} {a : Nat} : fvl M a 8 4 = .ref (a + 26) := rfl
theorem fv_8_8 {M : Mem} {a : Nat} : fvl M a 8 8 = .ref (a + 29) := rfl
theorem lf_RX2_12 : FL RX2 12 2 0 := ⟨_, _, _, rfl, rfl, by decide, gin 550 (by decide +kernel) rfl⟩
theorem lf_RX2_36 : FL RX2 36 9 2 := ⟨_, _, _, rfl, rfl, by decide, gin 500 (by decide +kernel) rfl⟩
theorem lf_RX2_70 : FL RX2 70 5 10 := ⟨_, _, _, rfl, rfl, by decide, gin 463 (by decide +kernel) rfl⟩
theorem lf_RX2_74 : FL RX2 74 0 1 := ⟨_, _, _, rfl, rfl, by decide, gin 363 (by decide +kernel) rfl⟩
theorem lf_RX2_40 : FL RX2 40 3 0 := ⟨_, _, _, rfl, rfl, by decide, gin 163 (by decide +kernel) rfl⟩
theorem ll_RX2_46 : Cond.methodLink RX2 46 yX5_level ∈ gw := gin 870 (by decide +kernel) rfl
theorem lf_RX2_52 : FL RX2 52 5 7 := ⟨_, _, _, rfl, rfl, by decide, gin 454 (by decide +kernel) rfl⟩
theorem lf_RX2_55 : FL RX2 55 5 0 := ⟨_, _, _, rfl, rfl, by decide, gin 436 (by decide +kernel) rfl⟩
theorem lf_RX2_58 : FL RX2 58 5 11 := ⟨_, _, _, rfl, rfl, by decide, gin 467 (by decide +kernel) rfl⟩
theorem lf_RX2_62 : FL RX2 62 4 0 := ⟨_, _, _, rfl, rfl, by decide, gin 407 (by decide +kernel) rfl⟩
theorem lf_RX2_67 : FL RX2 67 4 1 := ⟨_, _, _, rfl, rfl, by decide, gin 410 (by decide +kernel) rfl⟩
theorem lm_X9_apply : lkM yX9_apply cX9_apply 5 none 3 := ⟨gin 668 (by decide +kernel) rfl, gin 95 (by decide +kernel) rfl, by decide +kernel⟩
theorem lv_m_X9_apply : Cond.instanceMethod yX9_apply ∈ gw ∧ Cond.selects (yX9_apply).cls yX9_apply yX9_apply ∈ gw := ⟨gin 666 (by decide +kernel) rfl, gin 667 (by decide +kernel) rfl⟩
theorem ll_RX2_32 : Cond.methodLink RX2 32 yX9_apply ∈ gw := gin 1274 (by decide +kernel) rfl
theorem lm_X9_copyFrom : lkM yX9_copyFrom cX9_copyFrom 2 none 1 := ⟨gin 833 (by decide +kernel) rfl, gin 95 (by decide +kernel) rfl, by decide +kernel⟩
theorem lv_m_X9_copyFrom : Cond.instanceMethod yX9_copyFrom ∈ gw ∧ Cond.selects (yX9_copyFrom).cls yX9_copyFrom yX9_copyFrom ∈ gw := ⟨gin 831 (by decide +kernel) rfl, gin 832 (by decide +kernel) rfl⟩
theorem ll_RX2_28 : Cond.methodLink RX2 28 yX9_copyFrom ∈ gw := gin 864 (by decide +kernel) rfl
theorem ll_RX2_79 : Cond.methodLink RX2 79 yX9_step ∈ gw := gin 865 (by decide +kernel) rfl
theorem lf_RX2_86 : FL RX2 86 0 2 := ⟨_, _, _, rfl, rfl, by decide, gin 366 (by decide +kernel) rfl⟩
theorem lf_RX2_89 : FL RX2 89 5 9 := ⟨_, _, _, rfl, rfl, by decide, gin 460 (by decide +kernel) rfl⟩
theorem lm_X2_harm : lkM yX2_harm cX2_harm 2 (some .int) 1 := ⟨gin 1293 (by decide +kernel) rfl, gin 100 (by decide +kernel) rfl, by decide +kernel⟩
theorem lv_m_X2_harm : Cond.instanceMethod yX2_harm ∈ gw ∧ Cond.selects (yX2_harm).cls yX2_harm yX2_harm ∈ gw := ⟨gin 1292 (by decide +kernel) rfl, gin 24 (by decide +kernel) rfl⟩
theorem ll_RX2_83 : Cond.methodLink RX2 83 yX2_harm ∈ gw := gin 1290 (by decide +kernel) rfl
theorem lc_2 : ∃ T N, vwCl[2]? = some (RX2, T, N) := ⟨_, _, rfl⟩
theorem lf_RX2_92 : FL RX2 92 5 1 := ⟨_, _, _, rfl, rfl, by decide, gin 440 (by decide +kernel) rfl⟩
theorem lm_J9_abs_0f7a4 : lkM yJ9_abs_0f7a4 cJ9_abs_0f7a4 1 (some .int) 1 := ⟨gin 873 (by decide +kernel) rfl, gin 111 (by decide +kernel) rfl, by decide +kernel⟩
theorem ls_m_J9_abs_0f7a4 : Cond.static yJ9_abs_0f7a4 ∈ gw := gin 872 (by decide +kernel) rfl
theorem ll_RX2_95 : Cond.methodLink RX2 95 yJ9_abs_0f7a4 ∈ gw := gin 871 (by decide +kernel) rfl
theorem lm_X2_offTarget : lkM yX2_offTarget cX2_offTarget 2 (some .int) 1 := ⟨gin 869 (by decide +kernel) rfl, gin 100 (by decide +kernel) rfl, by decide +kernel⟩
theorem lv_m_X2_offTarget : Cond.instanceMethod yX2_offTarget ∈ gw ∧ Cond.selects (yX2_offTarget).cls yX2_offTarget yX2_offTarget ∈ gw := ⟨gin 868 (by decide +kernel) rfl, gin 4 (by decide +kernel) rfl⟩
theorem ll_RX2_100 : Cond.methodLink RX2 100 yX2_offTarget ∈ gw := gin 866 (by decide +kernel) rfl
theorem lf_RX2_103 : FL RX2 103 2 1 := ⟨_, _, _, rfl, rfl, by decide, gin 551 (by decide +kernel) rfl⟩
theorem lp_RX2_103 : FP RX2 103 2 1 .int := ⟨_, _, _, rfl, rfl, by decide, gin 551 (by decide +kernel) rfl, rfl, by decide +kernel⟩
theorem lp_RX2_106 : FP RX2 106 2 2 .int := ⟨_, _, _, rfl, rfl, by decide, gin 553 (by decide +kernel) rfl, rfl, by decide +kernel⟩
theorem lf_RX2_106 : FL RX2 106 2 2 := ⟨_, _, _, rfl, rfl, by decide, gin 553 (by decide +kernel) rfl⟩
theorem lp_RX2_92 : FP RX2 92 5 1 .int := ⟨_, _, _, rfl, rfl, by decide, gin 440 (by decide +kernel) rfl, rfl, by decide +kernel⟩
theorem lm_X2_prefer : lkM yX2_prefer cX2_prefer 3 none 2 := ⟨gin 1309 (by decide +kernel) rfl, gin 100 (by decide +kernel) rfl, by decide +kernel⟩
theorem lv_m_X2_prefer : Cond.instanceMethod yX2_prefer ∈ gw ∧ Cond.selects (yX2_prefer).cls yX2_prefer yX2_prefer ∈ gw := ⟨gin 1308 (by decide +kernel) rfl, gin 25 (by decide +kernel) rfl⟩
theorem ll_RX2_109 : Cond.methodLink RX2 109 yX2_prefer ∈ gw := gin 1306 (by decide +kernel) rfl
theorem ll_RX2_123 : Cond.methodLink RX2 123 yJ9_max_7cf53 ∈ gw := gin 1325 (by decide +kernel) rfl
theorem lp_RX2_113 : FP RX2 113 5 3 .int := ⟨_, _, _, rfl, rfl, by decide, gin 447 (by decide +kernel) rfl, rfl, by decide +kernel⟩
theorem lp_RX2_116 : FP RX2 116 5 4 .int := ⟨_, _, _, rfl, rfl, by decide, gin 449 (by decide +kernel) rfl, rfl, by decide +kernel⟩
theorem lm_X2_mostOffTarget : lkM yX2_mostOffTarget cX2_mostOffTarget 5 (some .int) 2 := ⟨gin 1324 (by decide +kernel) rfl, gin 100 (by decide +kernel) rfl, by decide +kernel⟩
theorem lv_m_X2_mostOffTarget : Cond.instanceMethod yX2_mostOffTarget ∈ gw ∧ Cond.selects (yX2_mostOffTarget).cls yX2_mostOffTarget yX2_mostOffTarget ∈ gw := ⟨gin 1323 (by decide +kernel) rfl, gin 26 (by decide +kernel) rfl⟩
theorem ll_RX2_119 : Cond.methodLink RX2 119 yX2_mostOffTarget ∈ gw := gin 1321 (by decide +kernel) rfl
theorem lf_RX8_45 : FL RX8 45 8 5 := ⟨_, _, _, rfl, rfl, by decide, gin 517 (by decide +kernel) rfl⟩
theorem lf_RX8_28 : FL RX8 28 8 6 := ⟨_, _, _, rfl, rfl, by decide, gin 519 (by decide +kernel) rfl⟩
theorem lf_RX8_31 : FL RX8 31 8 7 := ⟨_, _, _, rfl, rfl, by decide, gin 520 (by decide +kernel) rfl⟩
theorem lf_RX2_127 : FL RX2 127 8 0 := ⟨_, _, _, rfl, rfl, by decide, gin 511 (by decide +kernel) rfl⟩
theorem lf_RX2_132 : FL RX2 132 9 1 := ⟨_, _, _, rfl, rfl, by decide, gin 498 (by decide +kernel) rfl⟩
theorem lp_RX2_136 : FP RX2 136 1 0 .int := ⟨_, _, _, rfl, rfl, by decide, gin 284 (by decide +kernel) rfl, rfl, by decide +kernel⟩
theorem lf_RX2_18 : FL RX2 18 2 6 := ⟨_, _, _, rfl, rfl, by decide, gin 560 (by decide +kernel) rfl⟩
theorem lm_X8_isNoted : lkM yX8_isNoted cX8_isNoted 4 (some .boolean) 2 := ⟨gin 1340 (by decide +kernel) rfl, gin 94 (by decide +kernel) rfl, by decide +kernel⟩
theorem lv_m_X8_isNoted : Cond.instanceMethod yX8_isNoted ∈ gw ∧ Cond.selects (yX8_isNoted).cls yX8_isNoted yX8_isNoted ∈ gw := ⟨gin 1338 (by decide +kernel) rfl, gin 1339 (by decide +kernel) rfl⟩
theorem ll_RX2_141 : Cond.methodLink RX2 141 yX8_isNoted ∈ gw := gin 1337 (by decide +kernel) rfl
theorem lc_8 : ∃ T N, vwCl[8]? = some (RX8, T, N) := ⟨_, _, rfl⟩
theorem lf_RX2_25 : FL RX2 25 2 8 := ⟨_, _, _, rfl, rfl, by decide, gin 562 (by decide +kernel) rfl⟩
theorem lf_RX2_22 : FL RX2 22 2 7 := ⟨_, _, _, rfl, rfl, by decide, gin 561 (by decide +kernel) rfl⟩
theorem lp_RX2_149 : FP RX2 149 2 3 .int := ⟨_, _, _, rfl, rfl, by decide, gin 555 (by decide +kernel) rfl, rfl, by decide +kernel⟩
theorem lp_RX2_152 : FP RX2 152 2 4 .int := ⟨_, _, _, rfl, rfl, by decide, gin 557 (by decide +kernel) rfl, rfl, by decide +kernel⟩
theorem lf_RX2_136 : FL RX2 136 1 0 := ⟨_, _, _, rfl, rfl, by decide, gin 284 (by decide +kernel) rfl⟩
theorem lf_RX2_149 : FL RX2 149 2 3 := ⟨_, _, _, rfl, rfl, by decide, gin 555 (by decide +kernel) rfl⟩
theorem lf_RX2_152 : FL RX2 152 2 4 := ⟨_, _, _, rfl, rfl, by decide, gin 557 (by decide +kernel) rfl⟩
theorem lm_X2_seeLooks : lkM yX2_seeLooks cX2_seeLooks 3 none 0 := ⟨gin 1352 (by decide +kernel) rfl, gin 100 (by decide +kernel) rfl, by decide +kernel⟩
theorem lv_m_X2_seeLooks : Cond.instanceMethod yX2_seeLooks ∈ gw ∧ Cond.selects (yX2_seeLooks).cls yX2_seeLooks yX2_seeLooks ∈ gw := ⟨gin 1351 (by decide +kernel) rfl, gin 27 (by decide +kernel) rfl⟩
theorem ll_RX2_168 : Cond.methodLink RX2 168 yX2_seeLooks ∈ gw := gin 1349 (by decide +kernel) rfl
theorem ll_RX2_165 : Cond.methodLink RX2 165 yJ9_min_7cf53 ∈ gw := gin 1348 (by decide +kernel) rfl
theorem lm_X2_agrees : lkM yX2_agrees cX2_agrees 6 (some .boolean) 3 := ⟨gin 1336 (by decide +kernel) rfl, gin 100 (by decide +kernel) rfl, by decide +kernel⟩
theorem lv_m_X2_agrees : Cond.instanceMethod yX2_agrees ∈ gw ∧ Cond.selects (yX2_agrees).cls yX2_agrees yX2_agrees ∈ gw := ⟨gin 1334 (by decide +kernel) rfl, gin 1335 (by decide +kernel) rfl⟩
theorem ll_RX2_161 : Cond.methodLink RX2 161 yX2_agrees ∈ gw := gin 1347 (by decide +kernel) rfl
theorem ll_RX2_155 : Cond.methodLink RX2 155 yJ7_fill_53178 ∈ gw := gin 1346 (by decide +kernel) rfl
theorem lp_RX2_183 : FP RX2 183 1 12 .int := ⟨_, _, _, rfl, rfl, by decide, gin 315 (by decide +kernel) rfl, rfl, by decide +kernel⟩
theorem lp_RX2_186 : FP RX2 186 1 13 .int := ⟨_, _, _, rfl, rfl, by decide, gin 317 (by decide +kernel) rfl, rfl, by decide +kernel⟩
theorem lm_X2_isUnharmed : lkM yX2_isUnharmed cX2_isUnharmed 6 (some .boolean) 4 := ⟨gin 1383 (by decide +kernel) rfl, gin 100 (by decide +kernel) rfl, by decide +kernel⟩
theorem lv_m_X2_isUnharmed : Cond.instanceMethod yX2_isUnharmed ∈ gw ∧ Cond.selects (yX2_isUnharmed).cls yX2_isUnharmed yX2_isUnharmed ∈ gw := ⟨gin 1382 (by decide +kernel) rfl, gin 28 (by decide +kernel) rfl⟩
theorem ll_RX2_179 : Cond.methodLink RX2 179 yX2_isUnharmed ∈ gw := gin 1380 (by decide +kernel) rfl
theorem lm_X2_weightOf : lkM yX2_weightOf cX2_weightOf 5 (some .int) 3 := ⟨gin 1379 (by decide +kernel) rfl, gin 100 (by decide +kernel) rfl, by decide +kernel⟩
theorem ls_m_X2_weightOf : Cond.static yX2_weightOf ∈ gw := gin 1378 (by decide +kernel) rfl
theorem ll_RX2_175 : Cond.methodLink RX2 175 yX2_weightOf ∈ gw := gin 1377 (by decide +kernel) rfl
theorem lf_RX2_189 : FL RX2 189 2 5 := ⟨_, _, _, rfl, rfl, by decide, gin 559 (by decide +kernel) rfl⟩
theorem li_RX2_205 : Jvm.Cond.constant RX2 205 (1103515245 : Int32) ∈ gw := gin 1400 (by decide +kernel) rfl
theorem lp_RX2_189 : FP RX2 189 2 5 .int := ⟨_, _, _, rfl, rfl, by decide, gin 559 (by decide +kernel) rfl, rfl, by decide +kernel⟩
theorem lm_X2_draw : lkM yX2_draw cX2_draw 2 (some .int) 1 := ⟨gin 1399 (by decide +kernel) rfl, gin 100 (by decide +kernel) rfl, by decide +kernel⟩
theorem lv_m_X2_draw : Cond.instanceMethod yX2_draw ∈ gw ∧ Cond.selects (yX2_draw).cls yX2_draw yX2_draw ∈ gw := ⟨gin 1398 (by decide +kernel) rfl, gin 29 (by decide +kernel) rfl⟩
theorem ll_RX2_192 : Cond.methodLink RX2 192 yX2_draw ∈ gw := gin 1396 (by decide +kernel) rfl
theorem lp_RX2_202 : FP RX2 202 1 7 .int := ⟨_, _, _, rfl, rfl, by decide, gin 301 (by decide +kernel) rfl, rfl, by decide +kernel⟩
theorem lp_RX2_199 : FP RX2 199 1 6 .int := ⟨_, _, _, rfl, rfl, by decide, gin 297 (by decide +kernel) rfl, rfl, by decide +kernel⟩
theorem lm_X2_happen : lkM yX2_happen cX2_happen 2 none 1 := ⟨gin 1405 (by decide +kernel) rfl, gin 100 (by decide +kernel) rfl, by decide +kernel⟩
theorem lv_m_X2_happen : Cond.instanceMethod yX2_happen ∈ gw ∧ Cond.selects (yX2_happen).cls yX2_happen yX2_happen ∈ gw := ⟨gin 1404 (by decide +kernel) rfl, gin 30 (by decide +kernel) rfl⟩
theorem ll_RX2_195 : Cond.methodLink RX2 195 yX2_happen ∈ gw := gin 1402 (by decide +kernel) rfl
theorem lf_RX8_12 : FL RX8 12 8 0 := ⟨_, _, _, rfl, rfl, by decide, gin 509 (by decide +kernel) rfl⟩
theorem lf_RX8_18 : FL RX8 18 8 1 := ⟨_, _, _, rfl, rfl, by decide, gin 512 (by decide +kernel) rfl⟩
theorem lp_RX8_41 : FP RX8 41 8 2 .int := ⟨_, _, _, rfl, rfl, by decide, gin 513 (by decide +kernel) rfl, rfl, by decide +kernel⟩
theorem lp_RX8_45 : FP RX8 45 8 5 .int := ⟨_, _, _, rfl, rfl, by decide, gin 517 (by decide +kernel) rfl, rfl, by decide +kernel⟩
theorem lm_X9_begin : lkM yX9_begin cX9_begin 2 none 1 := ⟨gin 589 (by decide +kernel) rfl, gin 95 (by decide +kernel) rfl, by decide +kernel⟩
theorem lv_m_X9_begin : Cond.instanceMethod yX9_begin ∈ gw ∧ Cond.selects (yX9_begin).cls yX9_begin yX9_begin ∈ gw := ⟨gin 587 (by decide +kernel) rfl, gin 588 (by decide +kernel) rfl⟩
theorem ll_RX8_37 : Cond.methodLink RX8 37 yX9_begin ∈ gw := gin 586 (by decide +kernel) rfl
theorem lf_RX8_41 : FL RX8 41 8 2 := ⟨_, _, _, rfl, rfl, by decide, gin 513 (by decide +kernel) rfl⟩
theorem lf_RX8_21 : FL RX8 21 8 3 := ⟨_, _, _, rfl, rfl, by decide, gin 515 (by decide +kernel) rfl⟩
theorem lf_RX8_25 : FL RX8 25 8 4 := ⟨_, _, _, rfl, rfl, by decide, gin 516 (by decide +kernel) rfl⟩
theorem lf_RX8_34 : FL RX8 34 8 8 := ⟨_, _, _, rfl, rfl, by decide, gin 521 (by decide +kernel) rfl⟩
theorem ll_RX8_48 : Cond.methodLink RX8 48 yX9_copyFrom ∈ gw := gin 830 (by decide +kernel) rfl
theorem ll_RX8_64 : Cond.methodLink RX8 64 yX9_apply ∈ gw := gin 665 (by decide +kernel) rfl
theorem ll_RX8_68 : Cond.methodLink RX8 68 arraycopyName ∈ gw := gin 811 (by decide +kernel) rfl
def f_X2_behind (t : Nat) (r1_ : Nat) (r2_ : Nat) (x3_ : Int32) (x4_ : Int32) (M : Mem) : Option (Int32 × Mem) :=
  bd (f_X9_copyFrom (t + 1) r1_ M) (fun _ M2 => bd (f_X9_apply (t + 1) r2_ (0 : Int32) x3_ M2) (fun _ M4 => if x4_.toInt < 0 ∨ 4 < x4_.toInt then (some (M4.1 (t + 1 + 5 + 1) 1, M4)) else if x4_ = (0 : Int32) then (bd (f_X5_level (t + 1 + 5) (M4.1 r2_ 0) M4) (fun u5 M6 => some (u5, M6))) else if x4_ = (1 : Int32) then (some (M4.1 (t + 1 + 5) 7, M4)) else if x4_ = (2 : Int32) then (some (M4.1 (t + 1 + 5) 0, M4)) else if x4_ = (3 : Int32) then (some (M4.1 (t + 1 + 5 + 4) 0, M4)) else if x4_ = (4 : Int32) then (some (M4.1 (t + 1 + 5 + 4) 1, M4)) else none))
set_option maxRecDepth 20000 in
theorem c_X2_behind {G : Ctx} (hW : WFG G) {t : Nat} {r1_ : Nat} {r2_ : Nat} {x3_ : Int32} {x4_ : Int32} {M M' : Mem} {r : Int32} (h0 : hs G t (0, 2)) (h1 : hs G r1_ (0, 9)) (h2 : hs G r2_ (0, 3)) (hf : f_X2_behind t r1_ r2_ x3_ x4_ M = some (r, M')) : Ct G yX2_behind cX2_behind 5 (some .int) 6 148 [.ref t, .ref r1_, .ref r2_, .int x3_, .int x4_] M (some (.int r)) M' := by
  refine ct_i hW (by decide +kernel) (Nat.le_of_ble_eq_true rfl) (fun w h hr => ?_)
  have h : Rb G cX2_behind RX2 5 6 148 w := h
  refine (?_ : E (fun q => q = (r, M')) (f_X2_behind t r1_ r2_ x3_ x4_ M) (w M 0 [(0, .ref t), (1, .ref r1_), (2, .ref r2_), (3, .int x3_), (4, .int x4_)] [])) _ hf rfl
  unfold f_X2_behind
  refine E.m (h.aload_n 0 dX2_behind_0 rfl) ?_
  refine E.m (h.get h0 lf_RX2_12 dX2_behind_1 fv_2_0) ?_
  refine E.m (h.aload_n 1 dX2_behind_4 rfl) ?_
  refine E.bnd (fun _ M2 => w M2 8 [(0, .ref t), (1, .ref r1_), (2, .ref r2_), (3, .int x3_), (4, .int x4_)] []) (fun _ M2 hf k => h.callV (As := [.ref r1_]) (rest := []) (c_X9_copyFrom hW (hW.clo 5 h0 rfl) h1 hf) lm_X9_copyFrom lv_m_X9_copyFrom ll_RX2_28 (hW.clo 5 h0 rfl) lc_9 rfl rfl (Nat.le_of_ble_eq_true rfl) (by decide) dX2_behind_5 rfl k) (fun _ M2 => ?_)
  refine E.m (h.aload_n 0 dX2_behind_8 rfl) ?_
  refine E.m (h.get h0 lf_RX2_12 dX2_behind_9 fv_2_0) ?_
  refine E.m (h.aload_n 2 dX2_behind_12 rfl) ?_
  refine E.m (h.iconst (v := (0 : Int32)) dX2_behind_13 (by decide)) ?_
  refine E.m (h.iload_n 3 dX2_behind_14 rfl) ?_
  refine E.bnd (fun _ M4 => w M4 18 [(0, .ref t), (1, .ref r1_), (2, .ref r2_), (3, .int x3_), (4, .int x4_)] []) (fun _ M4 hf k => h.callV (As := [.ref r2_, .int (0 : Int32), .int x3_]) (rest := []) (c_X9_apply hW (hW.clo 5 h0 rfl) h2 hf) lm_X9_apply lv_m_X9_apply ll_RX2_32 (hW.clo 5 h0 rfl) lc_9 rfl rfl (Nat.le_of_ble_eq_true rfl) (by decide) dX2_behind_15 rfl k) (fun _ M4 => ?_)
  refine E.m (h.iload 4 dX2_behind_18 rfl) ?_
  refine E.sw (fun hc k => h.tabOut (tgt := 121) dX2_behind_20 hc (by decide) k) ?_ (fun hn => ?_)
  · refine E.m (h.aload_n 0 dX2_behind_121 rfl) ?_
    refine E.m (h.get h0 lf_RX2_12 dX2_behind_122 fv_2_0) ?_
    refine E.m (h.get (hW.clo 5 h0 rfl) lf_RX2_36 dX2_behind_125 fv_9_2) ?_
    refine E.m (h.get (hW.clo 33 (hW.clo 5 h0 rfl) rfl) lf_RX2_70 dX2_behind_128 fv_5_10) ?_
    refine E.m (h.get (hW.clo 14 (hW.clo 33 (hW.clo 5 h0 rfl) rfl) rfl) lf_RX2_74 dX2_behind_131 fv_0_1) ?_
    exact E.some (ret_i hr rfl dX2_behind_134)
  refine E.sw (fun hc k => h.tabIn (tgt := 56) dX2_behind_20 (by rw [hc]; decide) (by rw [hc]; decide) (by rw [hc]; rfl) (by decide) k) ?_ (fun _ => ?_)
  · refine E.m (h.aload_n 0 dX2_behind_56 rfl) ?_
    refine E.m (h.get h0 lf_RX2_12 dX2_behind_57 fv_2_0) ?_
    refine E.m (h.get (hW.clo 5 h0 rfl) lf_RX2_36 dX2_behind_60 fv_9_2) ?_
    refine E.m (h.aload_n 2 dX2_behind_63 rfl) ?_
    refine E.m (h.get h2 lf_RX2_40 dX2_behind_64 fv_3_0) ?_
    refine E.bnd (fun u5 M6 => w M6 70 [(0, .ref t), (1, .ref r1_), (2, .ref r2_), (3, .int x3_), (4, .int x4_)] [.int u5]) (fun u5 M6 hf k => h.callV (As := [.int (M4.1 r2_ 0)]) (rest := []) (c_X5_level hW (hW.clo 33 (hW.clo 5 h0 rfl) rfl) hf) lm_X5_level lv_m_X5_level ll_RX2_46 (hW.clo 33 (hW.clo 5 h0 rfl) rfl) lc_5 rfl rfl (Nat.le_of_ble_eq_true rfl) (by decide) dX2_behind_67 rfl k) (fun u5 M6 => ?_)
    exact E.some (ret_i hr rfl dX2_behind_70)
  refine E.sw (fun hc k => h.tabIn (tgt := 71) dX2_behind_20 (by rw [hc]; decide) (by rw [hc]; decide) (by rw [hc]; rfl) (by decide) k) ?_ (fun _ => ?_)
  · refine E.m (h.aload_n 0 dX2_behind_71 rfl) ?_
    refine E.m (h.get h0 lf_RX2_12 dX2_behind_72 fv_2_0) ?_
    refine E.m (h.get (hW.clo 5 h0 rfl) lf_RX2_36 dX2_behind_75 fv_9_2) ?_
    refine E.m (h.get (hW.clo 33 (hW.clo 5 h0 rfl) rfl) lf_RX2_52 dX2_behind_78 fv_5_7) ?_
    exact E.some (ret_i hr rfl dX2_behind_81)
  refine E.sw (fun hc k => h.tabIn (tgt := 82) dX2_behind_20 (by rw [hc]; decide) (by rw [hc]; decide) (by rw [hc]; rfl) (by decide) k) ?_ (fun _ => ?_)
  · refine E.m (h.aload_n 0 dX2_behind_82 rfl) ?_
    refine E.m (h.get h0 lf_RX2_12 dX2_behind_83 fv_2_0) ?_
    refine E.m (h.get (hW.clo 5 h0 rfl) lf_RX2_36 dX2_behind_86 fv_9_2) ?_
    refine E.m (h.get (hW.clo 33 (hW.clo 5 h0 rfl) rfl) lf_RX2_55 dX2_behind_89 fv_5_0) ?_
    exact E.some (ret_i hr rfl dX2_behind_92)
  refine E.sw (fun hc k => h.tabIn (tgt := 93) dX2_behind_20 (by rw [hc]; decide) (by rw [hc]; decide) (by rw [hc]; rfl) (by decide) k) ?_ (fun _ => ?_)
  · refine E.m (h.aload_n 0 dX2_behind_93 rfl) ?_
    refine E.m (h.get h0 lf_RX2_12 dX2_behind_94 fv_2_0) ?_
    refine E.m (h.get (hW.clo 5 h0 rfl) lf_RX2_36 dX2_behind_97 fv_9_2) ?_
    refine E.m (h.get (hW.clo 33 (hW.clo 5 h0 rfl) rfl) lf_RX2_58 dX2_behind_100 fv_5_11) ?_
    refine E.m (h.get (hW.clo 15 (hW.clo 33 (hW.clo 5 h0 rfl) rfl) rfl) lf_RX2_62 dX2_behind_103 fv_4_0) ?_
    exact E.some (ret_i hr rfl dX2_behind_106)
  refine E.sw (fun hc k => h.tabIn (tgt := 107) dX2_behind_20 (by rw [hc]; decide) (by rw [hc]; decide) (by rw [hc]; rfl) (by decide) k) ?_ (fun _ => ?_)
  · refine E.m (h.aload_n 0 dX2_behind_107 rfl) ?_
    refine E.m (h.get h0 lf_RX2_12 dX2_behind_108 fv_2_0) ?_
    refine E.m (h.get (hW.clo 5 h0 rfl) lf_RX2_36 dX2_behind_111 fv_9_2) ?_
    refine E.m (h.get (hW.clo 33 (hW.clo 5 h0 rfl) rfl) lf_RX2_58 dX2_behind_114 fv_5_11) ?_
    refine E.m (h.get (hW.clo 15 (hW.clo 33 (hW.clo 5 h0 rfl) rfl) rfl) lf_RX2_67 dX2_behind_117 fv_4_1) ?_
    exact E.some (ret_i hr rfl dX2_behind_120)
  exact E.none
def l_X2_firstPlaying_10 (t : Nat) (r2_ : Nat) (k3 : Int32) (M4 : Mem) : Option ((Int32 × Mem) ⊕ (Int32 × Mem)) :=
  if (400 : Int32) < k3 then (some (.inr ((-1 : Int32), M4))) else (if (M4.1 (t + 1 + 5) 0) = (2 : Int32) then (some (.inr (k3, M4))) else (bd (f_X9_step (t + 1) r2_ M4) (fun _ M6 => nm (k3 + (1 : Int32)) (fun y7 => some (.inl (y7, M6))))))
def f_X2_firstPlaying (t : Nat) (r1_ : Nat) (r2_ : Nat) (M : Mem) : Option (Int32 × Mem) :=
  bd (f_X9_copyFrom (t + 1) r1_ M) (fun _ M2 => lop2 FU (l_X2_firstPlaying_10 t r2_) (0 : Int32) M2)
set_option maxRecDepth 20000 in
theorem c_X2_firstPlaying {G : Ctx} (hW : WFG G) {t : Nat} {r1_ : Nat} {r2_ : Nat} {M M' : Mem} {r : Int32} (h0 : hs G t (0, 2)) (h1 : hs G r1_ (0, 9)) (h2 : hs G r2_ (0, 3)) (hf : f_X2_firstPlaying t r1_ r2_ M = some (r, M')) : Ct G yX2_firstPlaying cX2_firstPlaying 4 (some .int) 5 148 [.ref t, .ref r1_, .ref r2_] M (some (.int r)) M' := by
  refine ct_i hW (by decide +kernel) (Nat.le_of_ble_eq_true rfl) (fun w h hr => ?_)
  have h : Rb G cX2_firstPlaying RX2 4 5 148 w := h
  refine (?_ : E (fun q => q = (r, M')) (f_X2_firstPlaying t r1_ r2_ M) (w M 0 [(0, .ref t), (1, .ref r1_), (2, .ref r2_)] [])) _ hf rfl
  unfold f_X2_firstPlaying
  refine E.m (h.aload_n 0 dX2_firstPlaying_0 rfl) ?_
  refine E.m (h.get h0 lf_RX2_12 dX2_firstPlaying_1 fv_2_0) ?_
  refine E.m (h.aload_n 1 dX2_firstPlaying_4 rfl) ?_
  refine E.bnd (fun _ M2 => w M2 8 [(0, .ref t), (1, .ref r1_), (2, .ref r2_)] []) (fun _ M2 hf k => h.callV (As := [.ref r1_]) (rest := []) (c_X9_copyFrom hW (hW.clo 5 h0 rfl) h1 hf) lm_X9_copyFrom lv_m_X9_copyFrom ll_RX2_28 (hW.clo 5 h0 rfl) lc_9 rfl rfl (Nat.le_of_ble_eq_true rfl) (by decide) dX2_firstPlaying_5 rfl k) (fun _ M2 => ?_)
  refine E.m (h.iconst (v := (0 : Int32)) dX2_firstPlaying_8 (by decide)) ?_
  refine E.m (h.istore_n dX2_firstPlaying_9 (by decide) rfl) ?_
  refine E.m (h.sub [1, 2, 3, 0] rfl) ?_
  refine E.loop2 (fun k3 M4 => w M4 10 [(0, .ref t), (1, .ref r1_), (2, .ref r2_), (3, .int k3)] []) (fun k3 M4 => ?_) _ _ _
  unfold l_X2_firstPlaying_10
  refine E.m (h.iload_n 3 dX2_firstPlaying_10 rfl) ?_
  refine E.m (h.sipush (v := (400 : Int32)) dX2_firstPlaying_11 (by decide)) ?_
  refine E.br (fun k1 k2 => h.icmp_gt (tgt := 47) dX2_firstPlaying_14 (by decide) k1 k2) ?_ ?_
  · refine E.m (h.iconst (v := (-1 : Int32)) dX2_firstPlaying_47 (by decide)) ?_
    exact E.some (ret_i hr rfl dX2_firstPlaying_48)
  · refine E.m (h.aload_n 0 dX2_firstPlaying_17 rfl) ?_
    refine E.m (h.get h0 lf_RX2_12 dX2_firstPlaying_18 fv_2_0) ?_
    refine E.m (h.get (hW.clo 5 h0 rfl) lf_RX2_36 dX2_firstPlaying_21 fv_9_2) ?_
    refine E.m (h.get (hW.clo 33 (hW.clo 5 h0 rfl) rfl) lf_RX2_55 dX2_firstPlaying_24 fv_5_0) ?_
    refine E.m (h.iconst (v := (2 : Int32)) dX2_firstPlaying_27 (by decide)) ?_
    refine E.br (fun k1 k2 => h.icmp_ne (tgt := 33) dX2_firstPlaying_28 (by decide) k2 k1) ?_ ?_
    · refine E.m (h.iload_n 3 dX2_firstPlaying_31 rfl) ?_
      exact E.some (ret_i hr rfl dX2_firstPlaying_32)
    · refine E.m (h.aload_n 0 dX2_firstPlaying_33 rfl) ?_
      refine E.m (h.get h0 lf_RX2_12 dX2_firstPlaying_34 fv_2_0) ?_
      refine E.m (h.aload_n 2 dX2_firstPlaying_37 rfl) ?_
      refine E.bnd (fun _ M6 => w M6 41 [(0, .ref t), (1, .ref r1_), (2, .ref r2_), (3, .int k3)] []) (fun _ M6 hf k => h.callV (As := [.ref r2_]) (rest := []) (c_X9_step hW (hW.clo 5 h0 rfl) h2 hf) lm_X9_step lv_m_X9_step ll_RX2_79 (hW.clo 5 h0 rfl) lc_9 rfl rfl (Nat.le_of_ble_eq_true rfl) (by decide) dX2_firstPlaying_38 rfl k) (fun _ M6 => ?_)
      refine E.m (h.iinc (v := (1 : Int32)) 3 dX2_firstPlaying_41 rfl (by decide) (by decide) rfl) ?_
      refine E.nmL (fun y7 => ?_)
      refine E.m (h.goto (tgt := 10) dX2_firstPlaying_44 (by decide)) ?_
      refine E.m (h.sub [1, 2, 3, 0] rfl) ?_
      exact E.some (fun q => q)
def f_X2_harm (t : Nat) (x1_ : Int32) (M : Mem) : Option (Int32 × Mem) :=
  if x1_ = (1 : Int32) then (some (M.1 (t + 1 + 5 + 4) 1, M)) else if x1_ = (2 : Int32) then (some ((M.1 (t + 1 + 5 + 1) 1) + (M.1 (t + 1 + 5 + 1) 2), M)) else (some (M.1 (t + 1 + 5) 9, M))
set_option maxRecDepth 20000 in
theorem c_X2_harm {G : Ctx} (hW : WFG G) {t : Nat} {x1_ : Int32} {M M' : Mem} {r : Int32} (h0 : hs G t (0, 2)) (hf : f_X2_harm t x1_ M = some (r, M')) : Ct G yX2_harm cX2_harm 2 (some .int) 0 0 [.ref t, .int x1_] M (some (.int r)) M' := by
  refine ct_i hW (by decide +kernel) (Nat.le_of_ble_eq_true rfl) (fun w h hr => ?_)
  have h : Rb G cX2_harm RX2 2 0 0 w := h
  refine (?_ : E (fun q => q = (r, M')) (f_X2_harm t x1_ M) (w M 0 [(0, .ref t), (1, .int x1_)] [])) _ hf rfl
  unfold f_X2_harm
  refine E.m (h.iload_n 1 dX2_harm_0 rfl) ?_
  refine E.sw (fun hc k => h.lookup (tgt := 28) dX2_harm_1 (by decide) (by (rw [hc]) <;> rfl) (by decide) k) ?_ (fun hn1 => ?_)
  · refine E.m (h.aload_n 0 dX2_harm_28 rfl) ?_
    refine E.m (h.get h0 lf_RX2_12 dX2_harm_29 fv_2_0) ?_
    refine E.m (h.get (hW.clo 5 h0 rfl) lf_RX2_36 dX2_harm_32 fv_9_2) ?_
    refine E.m (h.get (hW.clo 33 (hW.clo 5 h0 rfl) rfl) lf_RX2_58 dX2_harm_35 fv_5_11) ?_
    refine E.m (h.get (hW.clo 15 (hW.clo 33 (hW.clo 5 h0 rfl) rfl) rfl) lf_RX2_67 dX2_harm_38 fv_4_1) ?_
    exact E.some (ret_i hr rfl dX2_harm_41)
  refine E.sw (fun hc k => h.lookup (tgt := 42) dX2_harm_1 (by decide) (by (rw [hc]) <;> rfl) (by decide) k) ?_ (fun hn2 => ?_)
  · refine E.m (h.aload_n 0 dX2_harm_42 rfl) ?_
    refine E.m (h.get h0 lf_RX2_12 dX2_harm_43 fv_2_0) ?_
    refine E.m (h.get (hW.clo 5 h0 rfl) lf_RX2_36 dX2_harm_46 fv_9_2) ?_
    refine E.m (h.get (hW.clo 33 (hW.clo 5 h0 rfl) rfl) lf_RX2_70 dX2_harm_49 fv_5_10) ?_
    refine E.m (h.get (hW.clo 14 (hW.clo 33 (hW.clo 5 h0 rfl) rfl) rfl) lf_RX2_74 dX2_harm_52 fv_0_1) ?_
    refine E.m (h.aload_n 0 dX2_harm_55 rfl) ?_
    refine E.m (h.get h0 lf_RX2_12 dX2_harm_56 fv_2_0) ?_
    refine E.m (h.get (hW.clo 5 h0 rfl) lf_RX2_36 dX2_harm_59 fv_9_2) ?_
    refine E.m (h.get (hW.clo 33 (hW.clo 5 h0 rfl) rfl) lf_RX2_70 dX2_harm_62 fv_5_10) ?_
    refine E.m (h.get (hW.clo 14 (hW.clo 33 (hW.clo 5 h0 rfl) rfl) rfl) lf_RX2_86 dX2_harm_65 fv_0_2) ?_
    refine E.m (h.iadd dX2_harm_68) ?_
    exact E.some (ret_i hr rfl dX2_harm_69)
  refine E.m (h.lookup (tgt := 70) dX2_harm_1 (by decide) (lkdf 69 [(1, 27), (2, 41)] (List.forall_mem_cons.mpr ⟨ne_ti (n := 1) hn1, (List.forall_mem_cons.mpr ⟨ne_ti (n := 2) hn2, fun _ h => absurd h List.not_mem_nil⟩)⟩)) (by decide)) ?_
  refine E.m (h.aload_n 0 dX2_harm_70 rfl) ?_
  refine E.m (h.get h0 lf_RX2_12 dX2_harm_71 fv_2_0) ?_
  refine E.m (h.get (hW.clo 5 h0 rfl) lf_RX2_36 dX2_harm_74 fv_9_2) ?_
  refine E.m (h.get (hW.clo 33 (hW.clo 5 h0 rfl) rfl) lf_RX2_89 dX2_harm_77 fv_5_9) ?_
  exact E.some (ret_i hr rfl dX2_harm_80)
def l_X2_firstOf_18 (t : Nat) (r2_ : Nat) (x3_ : Int32) (u3 : Int32) (k5 : Int32) (M6 : Mem) : Option ((Int32 × Mem) ⊕ (Int32 × Mem)) :=
  if (400 : Int32) < k5 then (some (.inr ((-1 : Int32), M6))) else (bd (f_X9_step (t + 1) r2_ M6) (fun _ M8 => bd (f_X2_harm t x3_ M8) (fun u9 M10 => if u9 = u3 then (nm (k5 + (1 : Int32)) (fun y11 => some (.inl (y11, M10)))) else (some (.inr (k5, M10))))))
def f_X2_firstOf (t : Nat) (r1_ : Nat) (r2_ : Nat) (x3_ : Int32) (M : Mem) : Option (Int32 × Mem) :=
  bd (f_X9_copyFrom (t + 1) r1_ M) (fun _ M2 => bd (f_X2_harm t x3_ M2) (fun u3 M4 => lop2 FU (l_X2_firstOf_18 t r2_ x3_ u3) (1 : Int32) M4))
set_option maxRecDepth 20000 in
theorem c_X2_firstOf {G : Ctx} (hW : WFG G) {t : Nat} {r1_ : Nat} {r2_ : Nat} {x3_ : Int32} {M M' : Mem} {r : Int32} (h0 : hs G t (0, 2)) (h1 : hs G r1_ (0, 9)) (h2 : hs G r2_ (0, 3)) (hf : f_X2_firstOf t r1_ r2_ x3_ M = some (r, M')) : Ct G yX2_firstOf cX2_firstOf 6 (some .int) 5 148 [.ref t, .ref r1_, .ref r2_, .int x3_] M (some (.int r)) M' := by
  refine ct_i hW (by decide +kernel) (Nat.le_of_ble_eq_true rfl) (fun w h hr => ?_)
  have h : Rb G cX2_firstOf RX2 6 5 148 w := h
  refine (?_ : E (fun q => q = (r, M')) (f_X2_firstOf t r1_ r2_ x3_ M) (w M 0 [(0, .ref t), (1, .ref r1_), (2, .ref r2_), (3, .int x3_)] [])) _ hf rfl
  unfold f_X2_firstOf
  refine E.m (h.aload_n 0 dX2_firstOf_0 rfl) ?_
  refine E.m (h.get h0 lf_RX2_12 dX2_firstOf_1 fv_2_0) ?_
  refine E.m (h.aload_n 1 dX2_firstOf_4 rfl) ?_
  refine E.bnd (fun _ M2 => w M2 8 [(0, .ref t), (1, .ref r1_), (2, .ref r2_), (3, .int x3_)] []) (fun _ M2 hf k => h.callV (As := [.ref r1_]) (rest := []) (c_X9_copyFrom hW (hW.clo 5 h0 rfl) h1 hf) lm_X9_copyFrom lv_m_X9_copyFrom ll_RX2_28 (hW.clo 5 h0 rfl) lc_9 rfl rfl (Nat.le_of_ble_eq_true rfl) (by decide) dX2_firstOf_5 rfl k) (fun _ M2 => ?_)
  refine E.m (h.aload_n 0 dX2_firstOf_8 rfl) ?_
  refine E.m (h.iload_n 3 dX2_firstOf_9 rfl) ?_
  refine E.bnd (fun u3 M4 => w M4 13 [(0, .ref t), (1, .ref r1_), (2, .ref r2_), (3, .int x3_)] [.int u3]) (fun u3 M4 hf k => h.callV (As := [.int x3_]) (rest := []) (c_X2_harm hW h0 hf) lm_X2_harm lv_m_X2_harm ll_RX2_83 h0 lc_2 rfl rfl (Nat.le_of_ble_eq_true rfl) (by decide) dX2_firstOf_10 rfl k) (fun u3 M4 => ?_)
  refine E.m (h.istore dX2_firstOf_13 (by decide) rfl) ?_
  refine E.m (h.iconst (v := (1 : Int32)) dX2_firstOf_15 (by decide)) ?_
  refine E.m (h.istore dX2_firstOf_16 (by decide) rfl) ?_
  refine E.m (h.sub [2, 3, 4, 5, 1, 0] rfl) ?_
  refine E.loop2 (fun k5 M6 => w M6 18 [(0, .ref t), (1, .ref r1_), (2, .ref r2_), (3, .int x3_), (4, .int u3), (5, .int k5)] []) (fun k5 M6 => ?_) _ _ _
  unfold l_X2_firstOf_18
  refine E.m (h.iload 5 dX2_firstOf_18 rfl) ?_
  refine E.m (h.sipush (v := (400 : Int32)) dX2_firstOf_20 (by decide)) ?_
  refine E.br (fun k1 k2 => h.icmp_gt (tgt := 53) dX2_firstOf_23 (by decide) k1 k2) ?_ ?_
  · refine E.m (h.iconst (v := (-1 : Int32)) dX2_firstOf_53 (by decide)) ?_
    exact E.some (ret_i hr rfl dX2_firstOf_54)
  · refine E.m (h.aload_n 0 dX2_firstOf_26 rfl) ?_
    refine E.m (h.get h0 lf_RX2_12 dX2_firstOf_27 fv_2_0) ?_
    refine E.m (h.aload_n 2 dX2_firstOf_30 rfl) ?_
    refine E.bnd (fun _ M8 => w M8 34 [(0, .ref t), (1, .ref r1_), (2, .ref r2_), (3, .int x3_), (4, .int u3), (5, .int k5)] []) (fun _ M8 hf k => h.callV (As := [.ref r2_]) (rest := []) (c_X9_step hW (hW.clo 5 h0 rfl) h2 hf) lm_X9_step lv_m_X9_step ll_RX2_79 (hW.clo 5 h0 rfl) lc_9 rfl rfl (Nat.le_of_ble_eq_true rfl) (by decide) dX2_firstOf_31 rfl k) (fun _ M8 => ?_)
    refine E.m (h.aload_n 0 dX2_firstOf_34 rfl) ?_
    refine E.m (h.iload_n 3 dX2_firstOf_35 rfl) ?_
    refine E.bnd (fun u9 M10 => w M10 39 [(0, .ref t), (1, .ref r1_), (2, .ref r2_), (3, .int x3_), (4, .int u3), (5, .int k5)] [.int u9]) (fun u9 M10 hf k => h.callV (As := [.int x3_]) (rest := []) (c_X2_harm hW h0 hf) lm_X2_harm lv_m_X2_harm ll_RX2_83 h0 lc_2 rfl rfl (Nat.le_of_ble_eq_true rfl) (by decide) dX2_firstOf_36 rfl k) (fun u9 M10 => ?_)
    refine E.m (h.iload 4 dX2_firstOf_39 rfl) ?_
    refine E.br (fun k1 k2 => h.icmp_eq (tgt := 47) dX2_firstOf_41 (by decide) k1 k2) ?_ ?_
    · refine E.m (h.iinc (v := (1 : Int32)) 5 dX2_firstOf_47 rfl (by decide) (by decide) rfl) ?_
      refine E.nmL (fun y11 => ?_)
      refine E.m (h.goto (tgt := 18) dX2_firstOf_50 (by decide)) ?_
      refine E.m (h.sub [1, 2, 3, 4, 5, 0] rfl) ?_
      exact E.some (fun q => q)
    · refine E.m (h.iload 5 dX2_firstOf_44 rfl) ?_
      exact E.some (ret_i hr rfl dX2_firstOf_46)
def f_X2_offTarget (t : Nat) (x1_ : Int32) (M : Mem) : Option (Int32 × Mem) :=
  bd (f_X5_level (t + 1 + 5) x1_ M) (fun u1 M2 => bd (f_J9_abs_0f7a4 (u1 - (M2.1 (t + 1 + 5) 1)) M2) (fun u3 M4 => some (u3, M4)))
set_option maxRecDepth 20000 in
theorem c_X2_offTarget {G : Ctx} (hW : WFG G) {t : Nat} {x1_ : Int32} {M M' : Mem} {r : Int32} (h0 : hs G t (0, 2)) (hf : f_X2_offTarget t x1_ M = some (r, M')) : Ct G yX2_offTarget cX2_offTarget 2 (some .int) 3 63 [.ref t, .int x1_] M (some (.int r)) M' := by
  refine ct_i hW (by decide +kernel) (Nat.le_of_ble_eq_true rfl) (fun w h hr => ?_)
  have h : Rb G cX2_offTarget RX2 2 3 63 w := h
  refine (?_ : E (fun q => q = (r, M')) (f_X2_offTarget t x1_ M) (w M 0 [(0, .ref t), (1, .int x1_)] [])) _ hf rfl
  unfold f_X2_offTarget
  refine E.m (h.aload_n 0 dX2_offTarget_0 rfl) ?_
  refine E.m (h.get h0 lf_RX2_12 dX2_offTarget_1 fv_2_0) ?_
  refine E.m (h.get (hW.clo 5 h0 rfl) lf_RX2_36 dX2_offTarget_4 fv_9_2) ?_
  refine E.m (h.iload_n 1 dX2_offTarget_7 rfl) ?_
  refine E.bnd (fun u1 M2 => w M2 11 [(0, .ref t), (1, .int x1_)] [.int u1]) (fun u1 M2 hf k => h.callV (As := [.int x1_]) (rest := []) (c_X5_level hW (hW.clo 33 (hW.clo 5 h0 rfl) rfl) hf) lm_X5_level lv_m_X5_level ll_RX2_46 (hW.clo 33 (hW.clo 5 h0 rfl) rfl) lc_5 rfl rfl (Nat.le_of_ble_eq_true rfl) (by decide) dX2_offTarget_8 rfl k) (fun u1 M2 => ?_)
  refine E.m (h.aload_n 0 dX2_offTarget_11 rfl) ?_
  refine E.m (h.get h0 lf_RX2_12 dX2_offTarget_12 fv_2_0) ?_
  refine E.m (h.get (hW.clo 5 h0 rfl) lf_RX2_36 dX2_offTarget_15 fv_9_2) ?_
  refine E.m (h.get (hW.clo 33 (hW.clo 5 h0 rfl) rfl) lf_RX2_92 dX2_offTarget_18 fv_5_1) ?_
  refine E.m (h.isub dX2_offTarget_21) ?_
  refine E.bnd (fun u3 M4 => w M4 25 [(0, .ref t), (1, .int x1_)] [.int u3]) (fun u3 M4 hf k => h.callS (As := [.int (u1 - (M2.1 (t + 1 + 5) 1))]) (rest := []) (c_J9_abs_0f7a4 hW hf) lm_J9_abs_0f7a4 ls_m_J9_abs_0f7a4 ll_RX2_95 rfl rfl (Nat.le_of_ble_eq_true rfl) (by decide) dX2_offTarget_22 rfl k) (fun u3 M4 => ?_)
  exact E.some (ret_i hr rfl dX2_offTarget_25)
def l_X2_firstSettled_34 (t : Nat) (r2_ : Nat) (k4 : Int64) (k5 : Int32) (k6 : Int32) (M7 : Mem) : Option ((Int64 × Int32 × Int32 × Mem) ⊕ (Int32 × Mem)) :=
  if (440 : Int32) < k6 then (some (.inr ((-1 : Int32), M7))) else (bd (f_X9_step (t + 1) r2_ M7) (fun _ M9 => jn1 (fun z10 => nm ((k4 <<< ((1 : Int32).toInt64 &&& 63)) ||| z10.toInt64) (fun y11 => bd (f_X2_offTarget t (M9.1 r2_ 0) M9) (fun u12 M13 => jn1 (fun z14 => jn0 (fun _ => nm (k6 + (1 : Int32)) (fun y15 => some (.inl (y11, z14, y15, M13)))) (fun J121 => if z14 < (40 : Int32) then (J121 ()) else (if (lg_cmp ((y11 >>> ((40 : Int32).toInt64 &&& 63)) &&& (1 : Int64)) (0 : Int64)) = 0 then (J121 ()) else (some (.inr (k6 - (40 : Int32), M13)))))) (fun J95 => if (2 : Int32) < u12 then (J95 (0 : Int32)) else (J95 (k5 + (1 : Int32))))))) (fun J72 => if (M9.1 (t + 1 + 5) 0) = (2 : Int32) then (J72 (1 : Int32)) else (J72 (0 : Int32)))))
def f_X2_firstSettled (t : Nat) (r1_ : Nat) (r2_ : Nat) (M : Mem) : Option (Int32 × Mem) :=
  bd (f_X9_copyFrom (t + 1) r1_ M) (fun _ M2 => jn1 (fun z3 => lop4 FU (l_X2_firstSettled_34 t r2_) z3 (0 : Int32) (1 : Int32) M2) (fun J27 => if (M2.1 (t + 1 + 5) 0) = (2 : Int32) then (J27 (1 : Int64)) else (J27 (0 : Int64))))
set_option maxRecDepth 20000 in
theorem c_X2_firstSettled {G : Ctx} (hW : WFG G) {t : Nat} {r1_ : Nat} {r2_ : Nat} {M M' : Mem} {r : Int32} (h0 : hs G t (0, 2)) (h1 : hs G r1_ (0, 9)) (h2 : hs G r2_ (0, 3)) (hf : f_X2_firstSettled t r1_ r2_ M = some (r, M')) : Ct G yX2_firstSettled cX2_firstSettled 7 (some .int) 5 148 [.ref t, .ref r1_, .ref r2_] M (some (.int r)) M' := by
  refine ct_i hW (by decide +kernel) (Nat.le_of_ble_eq_true rfl) (fun w h hr => ?_)
  have h : Rb G cX2_firstSettled RX2 7 5 148 w := h
  refine (?_ : E (fun q => q = (r, M')) (f_X2_firstSettled t r1_ r2_ M) (w M 0 [(0, .ref t), (1, .ref r1_), (2, .ref r2_)] [])) _ hf rfl
  unfold f_X2_firstSettled
  refine E.m (h.aload_n 0 dX2_firstSettled_0 rfl) ?_
  refine E.m (h.get h0 lf_RX2_12 dX2_firstSettled_1 fv_2_0) ?_
  refine E.m (h.aload_n 1 dX2_firstSettled_4 rfl) ?_
  refine E.bnd (fun _ M2 => w M2 8 [(0, .ref t), (1, .ref r1_), (2, .ref r2_)] []) (fun _ M2 hf k => h.callV (As := [.ref r1_]) (rest := []) (c_X9_copyFrom hW (hW.clo 5 h0 rfl) h1 hf) lm_X9_copyFrom lv_m_X9_copyFrom ll_RX2_28 (hW.clo 5 h0 rfl) lc_9 rfl rfl (Nat.le_of_ble_eq_true rfl) (by decide) dX2_firstSettled_5 rfl k) (fun _ M2 => ?_)
  refine E.m (h.aload_n 0 dX2_firstSettled_8 rfl) ?_
  refine E.m (h.get h0 lf_RX2_12 dX2_firstSettled_9 fv_2_0) ?_
  refine E.m (h.get (hW.clo 5 h0 rfl) lf_RX2_36 dX2_firstSettled_12 fv_9_2) ?_
  refine E.m (h.get (hW.clo 33 (hW.clo 5 h0 rfl) rfl) lf_RX2_55 dX2_firstSettled_15 fv_5_0) ?_
  refine E.m (h.iconst (v := (2 : Int32)) dX2_firstSettled_18 (by decide)) ?_
  refine E.join1 (fun z3 => w M2 27 [(0, .ref t), (1, .ref r1_), (2, .ref r2_)] [.long z3]) (fun z3 => ?_) (fun J27 hJ27 => ?_)
  · refine E.m (h.lstore_n dX2_firstSettled_27 (by decide) rfl) ?_
    refine E.m (h.iconst (v := (0 : Int32)) dX2_firstSettled_28 (by decide)) ?_
    refine E.m (h.istore dX2_firstSettled_29 (by decide) rfl) ?_
    refine E.m (h.iconst (v := (1 : Int32)) dX2_firstSettled_31 (by decide)) ?_
    refine E.m (h.istore dX2_firstSettled_32 (by decide) rfl) ?_
    refine E.m (h.sub [3, 4, 5, 2, 1, 0] rfl) ?_
    refine E.loop4 (fun k4 k5 k6 M7 => w M7 34 [(0, .ref t), (1, .ref r1_), (2, .ref r2_), (3, .long k4), (5, .int k5), (6, .int k6)] []) (fun k4 k5 k6 M7 => ?_) _ _ _ _ _
    unfold l_X2_firstSettled_34
    refine E.m (h.iload 5 dX2_firstSettled_34 rfl) ?_
    refine E.m (h.sipush (v := (440 : Int32)) dX2_firstSettled_36 (by decide)) ?_
    refine E.br (fun k1 k2 => h.icmp_gt (tgt := 127) dX2_firstSettled_39 (by decide) k1 k2) ?_ ?_
    · refine E.m (h.iconst (v := (-1 : Int32)) dX2_firstSettled_127 (by decide)) ?_
      exact E.some (ret_i hr rfl dX2_firstSettled_128)
    · refine E.m (h.aload_n 0 dX2_firstSettled_42 rfl) ?_
      refine E.m (h.get h0 lf_RX2_12 dX2_firstSettled_43 fv_2_0) ?_
      refine E.m (h.aload_n 2 dX2_firstSettled_46 rfl) ?_
      refine E.bnd (fun _ M9 => w M9 50 [(0, .ref t), (1, .ref r1_), (2, .ref r2_), (3, .long k4), (5, .int k5), (6, .int k6)] []) (fun _ M9 hf k => h.callV (As := [.ref r2_]) (rest := []) (c_X9_step hW (hW.clo 5 h0 rfl) h2 hf) lm_X9_step lv_m_X9_step ll_RX2_79 (hW.clo 5 h0 rfl) lc_9 rfl rfl (Nat.le_of_ble_eq_true rfl) (by decide) dX2_firstSettled_47 rfl k) (fun _ M9 => ?_)
      refine E.m (h.lload_n 3 dX2_firstSettled_50 rfl) ?_
      refine E.m (h.iconst (v := (1 : Int32)) dX2_firstSettled_51 (by decide)) ?_
      refine E.m (h.lshl dX2_firstSettled_52) ?_
      refine E.m (h.aload_n 0 dX2_firstSettled_53 rfl) ?_
      refine E.m (h.get h0 lf_RX2_12 dX2_firstSettled_54 fv_2_0) ?_
      refine E.m (h.get (hW.clo 5 h0 rfl) lf_RX2_36 dX2_firstSettled_57 fv_9_2) ?_
      refine E.m (h.get (hW.clo 33 (hW.clo 5 h0 rfl) rfl) lf_RX2_55 dX2_firstSettled_60 fv_5_0) ?_
      refine E.m (h.iconst (v := (2 : Int32)) dX2_firstSettled_63 (by decide)) ?_
      refine E.join1 (fun z10 => w M9 72 [(0, .ref t), (1, .ref r1_), (2, .ref r2_), (3, .long k4), (5, .int k5), (6, .int k6)] [.int z10, .long (k4 <<< ((1 : Int32).toInt64 &&& 63))]) (fun z10 => ?_) (fun J72 hJ72 => ?_)
      · refine E.m (h.i2l dX2_firstSettled_72) ?_
        refine E.m (h.lor dX2_firstSettled_73) ?_
        refine E.m (h.lstore_n dX2_firstSettled_74 (by decide) rfl) ?_
        refine E.nmJ (fun y11 => ?_)
        refine E.m (h.aload_n 1 dX2_firstSettled_75 rfl) ?_
        refine E.m (h.aload_n 3 dX2_firstSettled_76 rfl) ?_
        refine E.m (h.get h2 lf_RX2_40 dX2_firstSettled_77 fv_3_0) ?_
        refine E.bnd (fun u12 M13 => w M13 83 [(3, .long y11), (0, .ref t), (1, .ref r1_), (2, .ref r2_), (5, .int k5), (6, .int k6)] [.int u12]) (fun u12 M13 hf k => h.callV (As := [.int (M9.1 r2_ 0)]) (rest := []) (c_X2_offTarget hW h0 hf) lm_X2_offTarget lv_m_X2_offTarget ll_RX2_100 h0 lc_2 rfl rfl (Nat.le_of_ble_eq_true rfl) (by decide) dX2_firstSettled_80 rfl k) (fun u12 M13 => ?_)
        refine E.m (h.iconst (v := (2 : Int32)) dX2_firstSettled_83 (by decide)) ?_
        refine E.join1 (fun z14 => w M13 95 [(0, .ref t), (1, .ref r1_), (2, .ref r2_), (3, .long y11), (5, .int k5), (6, .int k6)] [.int z14]) (fun z14 => ?_) (fun J95 hJ95 => ?_)
        · refine E.m (h.istore dX2_firstSettled_95 (by decide) rfl) ?_
          refine E.m (h.iload 0 dX2_firstSettled_97 rfl) ?_
          refine E.m (h.bipush (v := (40 : Int32)) dX2_firstSettled_99 (by decide)) ?_
          refine E.join0 (fun _ => w M13 121 [(0, .ref t), (1, .ref r1_), (2, .ref r2_), (3, .long y11), (5, .int z14), (6, .int k6)] []) (fun _ => ?_) (fun J121 hJ121 => ?_)
          · refine E.m (h.iinc (v := (1 : Int32)) 5 dX2_firstSettled_121 rfl (by decide) (by decide) rfl) ?_
            refine E.nmL (fun y15 => ?_)
            refine E.m (h.goto (tgt := 34) dX2_firstSettled_124 (by decide)) ?_
            refine E.m (h.sub [1, 2, 3, 4, 5, 0] rfl) ?_
            exact E.some (fun q => q)
          refine E.br (fun k1 k2 => h.icmp_lt (tgt := 121) dX2_firstSettled_101 (by decide) k1 k2) ?_ ?_
          · refine E.m (h.sub [1, 2, 3, 4, 0, 5] rfl) ?_
            exact hJ121 ()
          · refine E.m (h.lload_n 4 dX2_firstSettled_104 rfl) ?_
            refine E.m (h.bipush (v := (40 : Int32)) dX2_firstSettled_105 (by decide)) ?_
            refine E.m (h.lshr dX2_firstSettled_107) ?_
            refine E.m (h.lconst (v := (1 : Int64)) dX2_firstSettled_108 (by decide)) ?_
            refine E.m (h.land dX2_firstSettled_109) ?_
            refine E.m (h.lconst (v := (0 : Int64)) dX2_firstSettled_110 (by decide)) ?_
            refine E.m (h.lcmp dX2_firstSettled_111) ?_
            refine E.br (fun k1 k2 => h.if_eq (tgt := 121) dX2_firstSettled_112 (by decide) k1 k2) ?_ ?_
            · refine E.m (h.sub [1, 2, 3, 4, 0, 5] rfl) ?_
              exact hJ121 ()
            · refine E.m (h.iload 5 dX2_firstSettled_115 rfl) ?_
              refine E.m (h.bipush (v := (40 : Int32)) dX2_firstSettled_117 (by decide)) ?_
              refine E.m (h.isub dX2_firstSettled_119) ?_
              exact E.some (ret_i hr rfl dX2_firstSettled_120)
        refine E.br (fun k1 k2 => h.icmp_gt (tgt := 94) dX2_firstSettled_84 (by decide) k1 k2) ?_ ?_
        · refine E.m (h.iconst (v := (0 : Int32)) dX2_firstSettled_94 (by decide)) ?_
          refine E.m (h.sub [1, 2, 3, 0, 4, 5] rfl) ?_
          exact hJ95 _
        · refine E.m (h.iload 4 dX2_firstSettled_87 rfl) ?_
          refine E.m (h.iconst (v := (1 : Int32)) dX2_firstSettled_89 (by decide)) ?_
          refine E.m (h.iadd dX2_firstSettled_90) ?_
          refine E.m (h.goto (tgt := 95) dX2_firstSettled_91 (by decide)) ?_
          refine E.m (h.sub [1, 2, 3, 0, 4, 5] rfl) ?_
          exact hJ95 _
      refine E.br (fun k1 k2 => h.icmp_ne (tgt := 71) dX2_firstSettled_64 (by decide) k2 k1) ?_ ?_
      · refine E.m (h.iconst (v := (1 : Int32)) dX2_firstSettled_67 (by decide)) ?_
        refine E.m (h.goto (tgt := 72) dX2_firstSettled_68 (by decide)) ?_
        exact hJ72 _
      · refine E.m (h.iconst (v := (0 : Int32)) dX2_firstSettled_71 (by decide)) ?_
        exact hJ72 _
  refine E.br (fun k1 k2 => h.icmp_ne (tgt := 26) dX2_firstSettled_19 (by decide) k2 k1) ?_ ?_
  · refine E.m (h.lconst (v := (1 : Int64)) dX2_firstSettled_22 (by decide)) ?_
    refine E.m (h.goto (tgt := 27) dX2_firstSettled_23 (by decide)) ?_
    exact hJ27 _
  · refine E.m (h.lconst (v := (0 : Int64)) dX2_firstSettled_26 (by decide)) ?_
    exact hJ27 _
def f_X2_prefer (t : Nat) (x1_ : Int32) (x2_ : Int32) (M : Mem) : Option (Unit × Mem) :=
  jn1 (fun M1 => some ((), M1)) (fun J26 => jn0 (fun _ => nm (wi M t 1 x1_) (fun M2 => nm (wi M2 t 2 x2_) (fun M3 => J26 M3))) (fun J16 => if (M.1 t 1) = (-1 : Int32) then (J16 ()) else (if (M.1 t 2) ≤ x2_ then (J26 M) else (J16 ()))))
set_option maxRecDepth 20000 in
theorem c_X2_prefer {G : Ctx} (hW : WFG G) {t : Nat} {x1_ : Int32} {x2_ : Int32} {M M' : Mem} (h0 : hs G t (0, 2)) (hf : f_X2_prefer t x1_ x2_ M = some ((), M')) : Ct G yX2_prefer cX2_prefer 3 none 0 0 [.ref t, .int x1_, .int x2_] M none M' := by
  refine ct_v hW (by decide +kernel) (Nat.le_of_ble_eq_true rfl) (fun w h hr => ?_)
  have h : Rb G cX2_prefer RX2 3 0 0 w := h
  refine (?_ : E (fun q => q = ((), M')) (f_X2_prefer t x1_ x2_ M) (w M 0 [(0, .ref t), (1, .int x1_), (2, .int x2_)] [])) _ hf rfl
  unfold f_X2_prefer
  refine E.m (h.aload_n 0 dX2_prefer_0 rfl) ?_
  refine E.m (h.get h0 lf_RX2_103 dX2_prefer_1 fv_2_1) ?_
  refine E.m (h.iconst (v := (-1 : Int32)) dX2_prefer_4 (by decide)) ?_
  refine E.join1 (fun M1 => w M1 26 [(0, .ref t), (1, .int x1_), (2, .int x2_)] []) (fun M1 => ?_) (fun J26 hJ26 => ?_)
  · exact E.some (ret_v hr dX2_prefer_26)
  refine E.join0 (fun _ => w M 16 [(0, .ref t), (1, .int x1_), (2, .int x2_)] []) (fun _ => ?_) (fun J16 hJ16 => ?_)
  · refine E.m (h.aload_n 0 dX2_prefer_16 rfl) ?_
    refine E.m (h.iload_n 1 dX2_prefer_17 rfl) ?_
    refine E.m (h.puti h0 lp_RX2_103 rfl dX2_prefer_18) ?_
    refine E.nmM (fun M2 => ?_)
    refine E.m (h.aload_n 0 dX2_prefer_21 rfl) ?_
    refine E.m (h.iload_n 2 dX2_prefer_22 rfl) ?_
    refine E.m (h.puti h0 lp_RX2_106 rfl dX2_prefer_23) ?_
    refine E.nmM (fun M3 => ?_)
    exact hJ26 _
  refine E.br (fun k1 k2 => h.icmp_eq (tgt := 16) dX2_prefer_5 (by decide) k1 k2) ?_ ?_
  · exact hJ16 ()
  · refine E.m (h.iload_n 2 dX2_prefer_8 rfl) ?_
    refine E.m (h.aload_n 0 dX2_prefer_9 rfl) ?_
    refine E.m (h.get h0 lf_RX2_106 dX2_prefer_10 fv_2_2) ?_
    refine E.br (fun k1 k2 => h.icmp_ge (tgt := 26) dX2_prefer_13 (by decide) k1 k2) ?_ ?_
    · exact hJ26 _
    · exact hJ16 ()
def l_X2_findTarget_13 (t : Nat) (r1_ : Nat) (r2_ : Nat) (x3_ : Int32) (k3 : Int32) (M4 : Mem) : Option ((Int32 × Mem) ⊕ (Unit × Mem)) :=
  if (64 : Int32) < k3 then (some (.inr ((), M4))) else (bd (f_X9_copyFrom (t + 1) r1_ M4) (fun _ M6 => nm (wi M6 (t + 1 + 5) 1 k3) (fun M7 => bd (f_X9_apply (t + 1) r2_ (0 : Int32) x3_ M7) (fun _ M9 => bd (f_X2_prefer t k3 ((M9.1 (t + 1 + 5 + 4) 1) - (M9.1 (r1_ + 5 + 4) 1)) M9) (fun _ M11 => nm (k3 + (1 : Int32)) (fun y12 => some (.inl (y12, M11))))))))
def f_X2_findTarget (t : Nat) (r1_ : Nat) (r2_ : Nat) (x3_ : Int32) (M : Mem) : Option (Unit × Mem) :=
  nm (wi M t 1 (-1 : Int32)) (fun M1 => nm (wi M1 t 2 (-1 : Int32)) (fun M2 => lop2 FU (l_X2_findTarget_13 t r1_ r2_ x3_) (1 : Int32) M2))
set_option maxRecDepth 20000 in
theorem c_X2_findTarget {G : Ctx} (hW : WFG G) {t : Nat} {r1_ : Nat} {r2_ : Nat} {x3_ : Int32} {M M' : Mem} (h0 : hs G t (0, 2)) (h1 : hs G r1_ (0, 9)) (h2 : hs G r2_ (0, 3)) (hf : f_X2_findTarget t r1_ r2_ x3_ M = some ((), M')) : Ct G yX2_findTarget cX2_findTarget 5 none 6 148 [.ref t, .ref r1_, .ref r2_, .int x3_] M none M' := by
  refine ct_v hW (by decide +kernel) (Nat.le_of_ble_eq_true rfl) (fun w h hr => ?_)
  have h : Rb G cX2_findTarget RX2 5 6 148 w := h
  refine (?_ : E (fun q => q = ((), M')) (f_X2_findTarget t r1_ r2_ x3_ M) (w M 0 [(0, .ref t), (1, .ref r1_), (2, .ref r2_), (3, .int x3_)] [])) _ hf rfl
  unfold f_X2_findTarget
  refine E.m (h.aload_n 0 dX2_findTarget_0 rfl) ?_
  refine E.m (h.iconst (v := (-1 : Int32)) dX2_findTarget_1 (by decide)) ?_
  refine E.m (h.puti h0 lp_RX2_103 rfl dX2_findTarget_2) ?_
  refine E.nmM (fun M1 => ?_)
  refine E.m (h.aload_n 0 dX2_findTarget_5 rfl) ?_
  refine E.m (h.iconst (v := (-1 : Int32)) dX2_findTarget_6 (by decide)) ?_
  refine E.m (h.puti h0 lp_RX2_106 rfl dX2_findTarget_7) ?_
  refine E.nmM (fun M2 => ?_)
  refine E.m (h.iconst (v := (1 : Int32)) dX2_findTarget_10 (by decide)) ?_
  refine E.m (h.istore dX2_findTarget_11 (by decide) rfl) ?_
  refine E.m (h.sub [1, 2, 3, 4, 0] rfl) ?_
  refine E.loop2 (fun k3 M4 => w M4 13 [(0, .ref t), (1, .ref r1_), (2, .ref r2_), (3, .int x3_), (4, .int k3)] []) (fun k3 M4 => ?_) _ _ _
  unfold l_X2_findTarget_13
  refine E.m (h.iload 4 dX2_findTarget_13 rfl) ?_
  refine E.m (h.bipush (v := (64 : Int32)) dX2_findTarget_15 (by decide)) ?_
  refine E.br (fun k1 k2 => h.icmp_gt (tgt := 86) dX2_findTarget_17 (by decide) k1 k2) ?_ ?_
  · exact E.some (ret_v hr dX2_findTarget_86)
  · refine E.m (h.aload_n 0 dX2_findTarget_20 rfl) ?_
    refine E.m (h.get h0 lf_RX2_12 dX2_findTarget_21 fv_2_0) ?_
    refine E.m (h.aload_n 1 dX2_findTarget_24 rfl) ?_
    refine E.bnd (fun _ M6 => w M6 28 [(0, .ref t), (1, .ref r1_), (2, .ref r2_), (3, .int x3_), (4, .int k3)] []) (fun _ M6 hf k => h.callV (As := [.ref r1_]) (rest := []) (c_X9_copyFrom hW (hW.clo 5 h0 rfl) h1 hf) lm_X9_copyFrom lv_m_X9_copyFrom ll_RX2_28 (hW.clo 5 h0 rfl) lc_9 rfl rfl (Nat.le_of_ble_eq_true rfl) (by decide) dX2_findTarget_25 rfl k) (fun _ M6 => ?_)
    refine E.m (h.aload_n 0 dX2_findTarget_28 rfl) ?_
    refine E.m (h.get h0 lf_RX2_12 dX2_findTarget_29 fv_2_0) ?_
    refine E.m (h.get (hW.clo 5 h0 rfl) lf_RX2_36 dX2_findTarget_32 fv_9_2) ?_
    refine E.m (h.iload 4 dX2_findTarget_35 rfl) ?_
    refine E.m (h.puti (hW.clo 33 (hW.clo 5 h0 rfl) rfl) lp_RX2_92 rfl dX2_findTarget_37) ?_
    refine E.nmM (fun M7 => ?_)
    refine E.m (h.aload_n 0 dX2_findTarget_40 rfl) ?_
    refine E.m (h.get h0 lf_RX2_12 dX2_findTarget_41 fv_2_0) ?_
    refine E.m (h.aload_n 2 dX2_findTarget_44 rfl) ?_
    refine E.m (h.iconst (v := (0 : Int32)) dX2_findTarget_45 (by decide)) ?_
    refine E.m (h.iload_n 3 dX2_findTarget_46 rfl) ?_
    refine E.bnd (fun _ M9 => w M9 50 [(0, .ref t), (1, .ref r1_), (2, .ref r2_), (3, .int x3_), (4, .int k3)] []) (fun _ M9 hf k => h.callV (As := [.ref r2_, .int (0 : Int32), .int x3_]) (rest := []) (c_X9_apply hW (hW.clo 5 h0 rfl) h2 hf) lm_X9_apply lv_m_X9_apply ll_RX2_32 (hW.clo 5 h0 rfl) lc_9 rfl rfl (Nat.le_of_ble_eq_true rfl) (by decide) dX2_findTarget_47 rfl k) (fun _ M9 => ?_)
    refine E.m (h.aload_n 0 dX2_findTarget_50 rfl) ?_
    refine E.m (h.iload 4 dX2_findTarget_51 rfl) ?_
    refine E.m (h.aload_n 0 dX2_findTarget_53 rfl) ?_
    refine E.m (h.get h0 lf_RX2_12 dX2_findTarget_54 fv_2_0) ?_
    refine E.m (h.get (hW.clo 5 h0 rfl) lf_RX2_36 dX2_findTarget_57 fv_9_2) ?_
    refine E.m (h.get (hW.clo 33 (hW.clo 5 h0 rfl) rfl) lf_RX2_58 dX2_findTarget_60 fv_5_11) ?_
    refine E.m (h.get (hW.clo 15 (hW.clo 33 (hW.clo 5 h0 rfl) rfl) rfl) lf_RX2_67 dX2_findTarget_63 fv_4_1) ?_
    refine E.m (h.aload_n 1 dX2_findTarget_66 rfl) ?_
    refine E.m (h.get h1 lf_RX2_36 dX2_findTarget_67 fv_9_2) ?_
    refine E.m (h.get (hW.clo 33 h1 rfl) lf_RX2_58 dX2_findTarget_70 fv_5_11) ?_
    refine E.m (h.get (hW.clo 15 (hW.clo 33 h1 rfl) rfl) lf_RX2_67 dX2_findTarget_73 fv_4_1) ?_
    refine E.m (h.isub dX2_findTarget_76) ?_
    refine E.bnd (fun _ M11 => w M11 80 [(0, .ref t), (1, .ref r1_), (2, .ref r2_), (3, .int x3_), (4, .int k3)] []) (fun _ M11 hf k => h.callV (As := [.int k3, .int ((M9.1 (t + 1 + 5 + 4) 1) - (M9.1 (r1_ + 5 + 4) 1))]) (rest := []) (c_X2_prefer hW h0 hf) lm_X2_prefer lv_m_X2_prefer ll_RX2_109 h0 lc_2 rfl rfl (Nat.le_of_ble_eq_true rfl) (by decide) dX2_findTarget_77 rfl k) (fun _ M11 => ?_)
    refine E.m (h.iinc (v := (1 : Int32)) 4 dX2_findTarget_80 rfl (by decide) (by decide) rfl) ?_
    refine E.nmL (fun y12 => ?_)
    refine E.m (h.goto (tgt := 13) dX2_findTarget_83 (by decide)) ?_
    refine E.m (h.sub [1, 2, 3, 4, 0] rfl) ?_
    exact E.some (fun q => q)
def l_X2_mostOffTarget_5 (t : Nat) (r1_ : Nat) (x2_ : Int32) (k1 : Int32) (k2 : Int32) (M3 : Mem) : Option ((Int32 × Int32 × Mem) ⊕ (Int32 × Mem)) :=
  if x2_ ≤ k2 then (some (.inr (k1, M3))) else (bd (f_X9_step (t + 1) r1_ M3) (fun _ M5 => jn2 (fun z6 M7 => nm (k2 + (1 : Int32)) (fun y8 => some (.inl (z6, y8, M7)))) (fun J46 => if (M5.1 (t + 1 + 5) 0) = (2 : Int32) then (bd (f_X2_offTarget t (M5.1 r1_ 0) M5) (fun u9 M10 => bd (f_J9_max_7cf53 k1 u9 M10) (fun u11 M12 => J46 u11 M12))) else (J46 k1 M5))))
def f_X2_mostOffTarget (t : Nat) (r1_ : Nat) (x2_ : Int32) (M : Mem) : Option (Int32 × Mem) :=
  lop3 FU (l_X2_mostOffTarget_5 t r1_ x2_) (-1 : Int32) (0 : Int32) M
set_option maxRecDepth 20000 in
theorem c_X2_mostOffTarget {G : Ctx} (hW : WFG G) {t : Nat} {r1_ : Nat} {x2_ : Int32} {M M' : Mem} {r : Int32} (h0 : hs G t (0, 2)) (h1 : hs G r1_ (0, 3)) (hf : f_X2_mostOffTarget t r1_ x2_ M = some (r, M')) : Ct G yX2_mostOffTarget cX2_mostOffTarget 5 (some .int) 5 119 [.ref t, .ref r1_, .int x2_] M (some (.int r)) M' := by
  refine ct_i hW (by decide +kernel) (Nat.le_of_ble_eq_true rfl) (fun w h hr => ?_)
  have h : Rb G cX2_mostOffTarget RX2 5 5 119 w := h
  refine (?_ : E (fun q => q = (r, M')) (f_X2_mostOffTarget t r1_ x2_ M) (w M 0 [(0, .ref t), (1, .ref r1_), (2, .int x2_)] [])) _ hf rfl
  unfold f_X2_mostOffTarget
  refine E.m (h.iconst (v := (-1 : Int32)) dX2_mostOffTarget_0 (by decide)) ?_
  refine E.m (h.istore_n dX2_mostOffTarget_1 (by decide) rfl) ?_
  refine E.m (h.iconst (v := (0 : Int32)) dX2_mostOffTarget_2 (by decide)) ?_
  refine E.m (h.istore dX2_mostOffTarget_3 (by decide) rfl) ?_
  refine E.m (h.sub [2, 3, 4, 1, 0] rfl) ?_
  refine E.loop3 (fun k1 k2 M3 => w M3 5 [(0, .ref t), (1, .ref r1_), (2, .int x2_), (3, .int k1), (4, .int k2)] []) (fun k1 k2 M3 => ?_) _ _ _ _
  unfold l_X2_mostOffTarget_5
  refine E.m (h.iload 4 dX2_mostOffTarget_5 rfl) ?_
  refine E.m (h.iload_n 2 dX2_mostOffTarget_7 rfl) ?_
  refine E.br (fun k1 k2 => h.icmp_ge (tgt := 52) dX2_mostOffTarget_8 (by decide) k1 k2) ?_ ?_
  · refine E.m (h.iload_n 3 dX2_mostOffTarget_52 rfl) ?_
    exact E.some (ret_i hr rfl dX2_mostOffTarget_53)
  · refine E.m (h.aload_n 0 dX2_mostOffTarget_11 rfl) ?_
    refine E.m (h.get h0 lf_RX2_12 dX2_mostOffTarget_12 fv_2_0) ?_
    refine E.m (h.aload_n 1 dX2_mostOffTarget_15 rfl) ?_
    refine E.bnd (fun _ M5 => w M5 19 [(0, .ref t), (1, .ref r1_), (2, .int x2_), (3, .int k1), (4, .int k2)] []) (fun _ M5 hf k => h.callV (As := [.ref r1_]) (rest := []) (c_X9_step hW (hW.clo 5 h0 rfl) h1 hf) lm_X9_step lv_m_X9_step ll_RX2_79 (hW.clo 5 h0 rfl) lc_9 rfl rfl (Nat.le_of_ble_eq_true rfl) (by decide) dX2_mostOffTarget_16 rfl k) (fun _ M5 => ?_)
    refine E.m (h.aload_n 0 dX2_mostOffTarget_19 rfl) ?_
    refine E.m (h.get h0 lf_RX2_12 dX2_mostOffTarget_20 fv_2_0) ?_
    refine E.m (h.get (hW.clo 5 h0 rfl) lf_RX2_36 dX2_mostOffTarget_23 fv_9_2) ?_
    refine E.m (h.get (hW.clo 33 (hW.clo 5 h0 rfl) rfl) lf_RX2_55 dX2_mostOffTarget_26 fv_5_0) ?_
    refine E.m (h.iconst (v := (2 : Int32)) dX2_mostOffTarget_29 (by decide)) ?_
    refine E.join2 (fun z6 M7 => w M7 46 [(0, .ref t), (1, .ref r1_), (2, .int x2_), (3, .int z6), (4, .int k2)] []) (fun z6 M7 => ?_) (fun J46 hJ46 => ?_)
    · refine E.m (h.iinc (v := (1 : Int32)) 4 dX2_mostOffTarget_46 rfl (by decide) (by decide) rfl) ?_
      refine E.nmL (fun y8 => ?_)
      refine E.m (h.goto (tgt := 5) dX2_mostOffTarget_49 (by decide)) ?_
      refine E.m (h.sub [1, 2, 3, 4, 0] rfl) ?_
      exact E.some (fun q => q)
    refine E.br (fun k1 k2 => h.icmp_ne (tgt := 46) dX2_mostOffTarget_30 (by decide) k2 k1) ?_ ?_
    · refine E.m (h.iload_n 3 dX2_mostOffTarget_33 rfl) ?_
      refine E.m (h.aload_n 0 dX2_mostOffTarget_34 rfl) ?_
      refine E.m (h.aload_n 1 dX2_mostOffTarget_35 rfl) ?_
      refine E.m (h.get h1 lf_RX2_40 dX2_mostOffTarget_36 fv_3_0) ?_
      refine E.bnd (fun u9 M10 => w M10 42 [(0, .ref t), (1, .ref r1_), (2, .int x2_), (3, .int k1), (4, .int k2)] [.int u9, .int k1]) (fun u9 M10 hf k => h.callV (As := [.int (M5.1 r1_ 0)]) (rest := [.int k1]) (c_X2_offTarget hW h0 hf) lm_X2_offTarget lv_m_X2_offTarget ll_RX2_100 h0 lc_2 rfl rfl (Nat.le_of_ble_eq_true rfl) (by decide) dX2_mostOffTarget_39 rfl k) (fun u9 M10 => ?_)
      refine E.bnd (fun u11 M12 => w M12 45 [(0, .ref t), (1, .ref r1_), (2, .int x2_), (3, .int k1), (4, .int k2)] [.int u11]) (fun u11 M12 hf k => h.callS (As := [.int k1, .int u9]) (rest := []) (c_J9_max_7cf53 hW hf) lm_J9_max_7cf53 ls_m_J9_max_7cf53 ll_RX2_123 rfl rfl (Nat.le_of_ble_eq_true rfl) (by decide) dX2_mostOffTarget_42 rfl k) (fun u11 M12 => ?_)
      refine E.m (h.istore_n dX2_mostOffTarget_45 (by decide) rfl) ?_
      refine E.m (h.sub [1, 2, 3, 0, 4] rfl) ?_
      exact hJ46 _ _
    · exact hJ46 _ _
def l_X2_findGains_23 (t : Nat) (r1_ : Nat) (r2_ : Nat) (x3_ : Int32) (k3 : Int32) (k5 : Int32) (M6 : Mem) : Option ((Int32 × Mem) ⊕ ((Int32 × Mem) ⊕ (Unit × Mem))) :=
  if (3 : Int32) < k5 then (nm (k3 + (1 : Int32)) (fun y7 => some (.inr (.inl (y7, M6))))) else (bd (f_X9_copyFrom (t + 1) r1_ M6) (fun _ M9 => nm (wi M9 (t + 1 + 5) 3 k3) (fun M10 => nm (wi M10 (t + 1 + 5) 4 k5) (fun M11 => bd (f_X2_mostOffTarget t r2_ x3_ M11) (fun u12 M13 => jn1 (fun M14 => nm (k5 + (1 : Int32)) (fun y15 => some (.inl (y15, M14)))) (fun J89 => if u12 = (-1 : Int32) then (J89 M13) else (bd (f_X2_prefer t (((10 : Int32) * k3) + k5) u12 M13) (fun _ M17 => J89 M17))))))))
def l_X2_findGains_13 (t : Nat) (r1_ : Nat) (r2_ : Nat) (x3_ : Int32) (k3 : Int32) (M4 : Mem) : Option ((Int32 × Mem) ⊕ (Unit × Mem)) :=
  if (9 : Int32) < k3 then (some (.inr ((), M4))) else (lop2 FU (l_X2_findGains_23 t r1_ r2_ x3_ k3) (0 : Int32) M4)
def f_X2_findGains (t : Nat) (r1_ : Nat) (r2_ : Nat) (x3_ : Int32) (M : Mem) : Option (Unit × Mem) :=
  nm (wi M t 1 (-1 : Int32)) (fun M1 => nm (wi M1 t 2 (-1 : Int32)) (fun M2 => lop2 FU (l_X2_findGains_13 t r1_ r2_ x3_) (0 : Int32) M2))
set_option maxRecDepth 20000 in
theorem c_X2_findGains {G : Ctx} (hW : WFG G) {t : Nat} {r1_ : Nat} {r2_ : Nat} {x3_ : Int32} {M M' : Mem} (h0 : hs G t (0, 2)) (h1 : hs G r1_ (0, 9)) (h2 : hs G r2_ (0, 3)) (hf : f_X2_findGains t r1_ r2_ x3_ M = some ((), M')) : Ct G yX2_findGains cX2_findGains 7 none 6 148 [.ref t, .ref r1_, .ref r2_, .int x3_] M none M' := by
  refine ct_v hW (by decide +kernel) (Nat.le_of_ble_eq_true rfl) (fun w h hr => ?_)
  have h : Rb G cX2_findGains RX2 7 6 148 w := h
  refine (?_ : E (fun q => q = ((), M')) (f_X2_findGains t r1_ r2_ x3_ M) (w M 0 [(0, .ref t), (1, .ref r1_), (2, .ref r2_), (3, .int x3_)] [])) _ hf rfl
  unfold f_X2_findGains
  refine E.m (h.aload_n 0 dX2_findGains_0 rfl) ?_
  refine E.m (h.iconst (v := (-1 : Int32)) dX2_findGains_1 (by decide)) ?_
  refine E.m (h.puti h0 lp_RX2_103 rfl dX2_findGains_2) ?_
  refine E.nmM (fun M1 => ?_)
  refine E.m (h.aload_n 0 dX2_findGains_5 rfl) ?_
  refine E.m (h.iconst (v := (-1 : Int32)) dX2_findGains_6 (by decide)) ?_
  refine E.m (h.puti h0 lp_RX2_106 rfl dX2_findGains_7) ?_
  refine E.nmM (fun M2 => ?_)
  refine E.m (h.iconst (v := (0 : Int32)) dX2_findGains_10 (by decide)) ?_
  refine E.m (h.istore dX2_findGains_11 (by decide) rfl) ?_
  refine E.m (h.sub [1, 2, 3, 4, 0] rfl) ?_
  refine E.loop2 (fun k3 M4 => w M4 13 [(0, .ref t), (1, .ref r1_), (2, .ref r2_), (3, .int x3_), (4, .int k3)] []) (fun k3 M4 => ?_) _ _ _
  unfold l_X2_findGains_13
  refine E.m (h.iload 4 dX2_findGains_13 rfl) ?_
  refine E.m (h.bipush (v := (9 : Int32)) dX2_findGains_15 (by decide)) ?_
  refine E.br (fun k1 k2 => h.icmp_gt (tgt := 101) dX2_findGains_17 (by decide) k1 k2) ?_ ?_
  · exact E.some (ret_v hr dX2_findGains_101)
  · refine E.m (h.iconst (v := (0 : Int32)) dX2_findGains_20 (by decide)) ?_
    refine E.m (h.istore dX2_findGains_21 (by decide) rfl) ?_
    refine E.m (h.sub [1, 2, 3, 4, 5, 0] rfl) ?_
    refine E.loop2 (fun k5 M6 => w M6 23 [(0, .ref t), (1, .ref r1_), (2, .ref r2_), (3, .int x3_), (4, .int k3), (5, .int k5)] []) (fun k5 M6 => ?_) _ _ _
    unfold l_X2_findGains_23
    refine E.m (h.iload 5 dX2_findGains_23 rfl) ?_
    refine E.m (h.iconst (v := (3 : Int32)) dX2_findGains_25 (by decide)) ?_
    refine E.br (fun k1 k2 => h.icmp_gt (tgt := 95) dX2_findGains_26 (by decide) k1 k2) ?_ ?_
    · refine E.m (h.iinc (v := (1 : Int32)) 4 dX2_findGains_95 rfl (by decide) (by decide) rfl) ?_
      refine E.nmL (fun y7 => ?_)
      refine E.m (h.goto (tgt := 13) dX2_findGains_98 (by decide)) ?_
      refine E.m (h.sub [1, 2, 3, 4, 0] rfl) ?_
      exact E.some (fun q => q)
    · refine E.m (h.aload_n 0 dX2_findGains_29 rfl) ?_
      refine E.m (h.get h0 lf_RX2_12 dX2_findGains_30 fv_2_0) ?_
      refine E.m (h.aload_n 1 dX2_findGains_33 rfl) ?_
      refine E.bnd (fun _ M9 => w M9 37 [(0, .ref t), (1, .ref r1_), (2, .ref r2_), (3, .int x3_), (4, .int k3), (5, .int k5)] []) (fun _ M9 hf k => h.callV (As := [.ref r1_]) (rest := []) (c_X9_copyFrom hW (hW.clo 5 h0 rfl) h1 hf) lm_X9_copyFrom lv_m_X9_copyFrom ll_RX2_28 (hW.clo 5 h0 rfl) lc_9 rfl rfl (Nat.le_of_ble_eq_true rfl) (by decide) dX2_findGains_34 rfl k) (fun _ M9 => ?_)
      refine E.m (h.aload_n 0 dX2_findGains_37 rfl) ?_
      refine E.m (h.get h0 lf_RX2_12 dX2_findGains_38 fv_2_0) ?_
      refine E.m (h.get (hW.clo 5 h0 rfl) lf_RX2_36 dX2_findGains_41 fv_9_2) ?_
      refine E.m (h.iload 4 dX2_findGains_44 rfl) ?_
      refine E.m (h.puti (hW.clo 33 (hW.clo 5 h0 rfl) rfl) lp_RX2_113 rfl dX2_findGains_46) ?_
      refine E.nmM (fun M10 => ?_)
      refine E.m (h.aload_n 0 dX2_findGains_49 rfl) ?_
      refine E.m (h.get h0 lf_RX2_12 dX2_findGains_50 fv_2_0) ?_
      refine E.m (h.get (hW.clo 5 h0 rfl) lf_RX2_36 dX2_findGains_53 fv_9_2) ?_
      refine E.m (h.iload 5 dX2_findGains_56 rfl) ?_
      refine E.m (h.puti (hW.clo 33 (hW.clo 5 h0 rfl) rfl) lp_RX2_116 rfl dX2_findGains_58) ?_
      refine E.nmM (fun M11 => ?_)
      refine E.m (h.aload_n 0 dX2_findGains_61 rfl) ?_
      refine E.m (h.aload_n 2 dX2_findGains_62 rfl) ?_
      refine E.m (h.iload_n 3 dX2_findGains_63 rfl) ?_
      refine E.bnd (fun u12 M13 => w M13 67 [(0, .ref t), (1, .ref r1_), (2, .ref r2_), (3, .int x3_), (4, .int k3), (5, .int k5)] [.int u12]) (fun u12 M13 hf k => h.callV (As := [.ref r2_, .int x3_]) (rest := []) (c_X2_mostOffTarget hW h0 h2 hf) lm_X2_mostOffTarget lv_m_X2_mostOffTarget ll_RX2_119 h0 lc_2 rfl rfl (Nat.le_of_ble_eq_true rfl) (by decide) dX2_findGains_64 rfl k) (fun u12 M13 => ?_)
      refine E.m (h.istore dX2_findGains_67 (by decide) rfl) ?_
      refine E.m (h.iload 0 dX2_findGains_69 rfl) ?_
      refine E.m (h.iconst (v := (-1 : Int32)) dX2_findGains_71 (by decide)) ?_
      refine E.join1 (fun M14 => w M14 89 [(0, .ref t), (1, .ref r1_), (2, .ref r2_), (3, .int x3_), (4, .int k3), (5, .int k5), (6, .int u12)] []) (fun M14 => ?_) (fun J89 hJ89 => ?_)
      · refine E.m (h.iinc (v := (1 : Int32)) 5 dX2_findGains_89 rfl (by decide) (by decide) rfl) ?_
        refine E.nmL (fun y15 => ?_)
        refine E.m (h.goto (tgt := 23) dX2_findGains_92 (by decide)) ?_
        refine E.m (h.sub [1, 2, 3, 4, 5, 0] rfl) ?_
        exact E.some (fun q => q)
      refine E.br (fun k1 k2 => h.icmp_eq (tgt := 89) dX2_findGains_72 (by decide) k1 k2) ?_ ?_
      · refine E.m (h.sub [1, 2, 3, 4, 5, 6, 0] rfl) ?_
        exact hJ89 _
      · refine E.m (h.aload_n 1 dX2_findGains_75 rfl) ?_
        refine E.m (h.bipush (v := (10 : Int32)) dX2_findGains_76 (by decide)) ?_
        refine E.m (h.iload 5 dX2_findGains_78 rfl) ?_
        refine E.m (h.imul dX2_findGains_80) ?_
        refine E.m (h.iload 6 dX2_findGains_81 rfl) ?_
        refine E.m (h.iadd dX2_findGains_83) ?_
        refine E.m (h.iload 0 dX2_findGains_84 rfl) ?_
        refine E.bnd (fun _ M17 => w M17 89 [(6, .int u12), (0, .ref t), (1, .ref r1_), (2, .ref r2_), (3, .int x3_), (4, .int k3), (5, .int k5)] []) (fun _ M17 hf k => h.callV (As := [.int (((10 : Int32) * k3) + k5), .int u12]) (rest := []) (c_X2_prefer hW h0 hf) lm_X2_prefer lv_m_X2_prefer ll_RX2_109 h0 lc_2 rfl rfl (Nat.le_of_ble_eq_true rfl) (by decide) dX2_findGains_86 rfl k) (fun _ M17 => ?_)
        refine E.m (h.sub [1, 2, 3, 4, 5, 6, 0] rfl) ?_
        exact hJ89 _
def l_X8_isNoted_2 (t : Nat) (x1_ : Int32) (x2_ : Int32) (k1 : Int32) (M2 : Mem) : Option ((Int32 × Mem) ⊕ (Int32 × Mem)) :=
  if (M2.1 t 5) ≤ k1 then (some (.inr ((1 : Int32), M2))) else (bd (f_X10_at (t + 27) 8 k1 M2) (fun u3 M4 => jn1 (fun M5 => nm (k1 + (1 : Int32)) (fun y6 => some (.inl (y6, M5)))) (fun J36 => if u3 = x1_ then (bd (f_X10_at (t + 28) 8 k1 M4) (fun u7 M8 => if u7 = x2_ then (J36 M8) else (some (.inr ((0 : Int32), M8))))) else (J36 M4))))
def f_X8_isNoted (t : Nat) (x1_ : Int32) (x2_ : Int32) (M : Mem) : Option (Int32 × Mem) :=
  lop2 FU (l_X8_isNoted_2 t x1_ x2_) (0 : Int32) M
set_option maxRecDepth 20000 in
theorem c_X8_isNoted {G : Ctx} (hW : WFG G) {t : Nat} {x1_ : Int32} {x2_ : Int32} {M M' : Mem} {r : Int32} (h0 : hs G t (0, 8)) (hf : f_X8_isNoted t x1_ x2_ M = some (r, M')) : Ct G yX8_isNoted cX8_isNoted 4 (some .boolean) 1 21 [.ref t, .int x1_, .int x2_] M (some (.int r)) M' := by
  refine ct_i hW (by decide +kernel) (Nat.le_of_ble_eq_true rfl) (fun w h hr => ?_)
  have h : Rb G cX8_isNoted RX8 4 1 21 w := h
  refine (?_ : E (fun q => q = (r, M')) (f_X8_isNoted t x1_ x2_ M) (w M 0 [(0, .ref t), (1, .int x1_), (2, .int x2_)] [])) _ hf rfl
  unfold f_X8_isNoted
  refine E.m (h.iconst (v := (0 : Int32)) dX8_isNoted_0 (by decide)) ?_
  refine E.m (h.istore_n dX8_isNoted_1 (by decide) rfl) ?_
  refine E.m (h.sub [1, 2, 3, 0] rfl) ?_
  refine E.loop2 (fun k1 M2 => w M2 2 [(0, .ref t), (1, .int x1_), (2, .int x2_), (3, .int k1)] []) (fun k1 M2 => ?_) _ _ _
  unfold l_X8_isNoted_2
  refine E.m (h.iload_n 3 dX8_isNoted_2 rfl) ?_
  refine E.m (h.aload_n 0 dX8_isNoted_3 rfl) ?_
  refine E.m (h.get h0 lf_RX8_45 dX8_isNoted_4 fv_8_5) ?_
  refine E.br (fun k1 k2 => h.icmp_ge (tgt := 42) dX8_isNoted_7 (by decide) k1 k2) ?_ ?_
  · refine E.m (h.iconst (v := (1 : Int32)) dX8_isNoted_42 (by decide)) ?_
    exact E.some (ret_i hr rfl dX8_isNoted_43)
  · refine E.m (h.aload_n 0 dX8_isNoted_10 rfl) ?_
    refine E.m (h.get h0 lf_RX8_28 dX8_isNoted_11 fv_8_6) ?_
    refine E.m (h.iload_n 3 dX8_isNoted_14 rfl) ?_
    refine E.bnd (fun u3 M4 => w M4 18 [(0, .ref t), (1, .int x1_), (2, .int x2_), (3, .int k1)] [.int u3]) (fun u3 M4 hf k => h.callSN (As := [.ref (t + 27), .int k1]) (rest := []) (c_X10_at hW (hW.clo 29 h0 rfl) hf) lm_X10_at ls_m_X10_at 12 rfl rfl rfl (Nat.le_of_ble_eq_true rfl) (by decide) dX8_isNoted_15 rfl k) (fun u3 M4 => ?_)
    refine E.m (h.iload_n 1 dX8_isNoted_18 rfl) ?_
    refine E.join1 (fun M5 => w M5 36 [(0, .ref t), (1, .int x1_), (2, .int x2_), (3, .int k1)] []) (fun M5 => ?_) (fun J36 hJ36 => ?_)
    · refine E.m (h.iinc (v := (1 : Int32)) 3 dX8_isNoted_36 rfl (by decide) (by decide) rfl) ?_
      refine E.nmL (fun y6 => ?_)
      refine E.m (h.goto (tgt := 2) dX8_isNoted_39 (by decide)) ?_
      refine E.m (h.sub [1, 2, 3, 0] rfl) ?_
      exact E.some (fun q => q)
    refine E.br (fun k1 k2 => h.icmp_ne (tgt := 36) dX8_isNoted_19 (by decide) k2 k1) ?_ ?_
    · refine E.m (h.aload_n 0 dX8_isNoted_22 rfl) ?_
      refine E.m (h.get h0 lf_RX8_31 dX8_isNoted_23 fv_8_7) ?_
      refine E.m (h.iload_n 3 dX8_isNoted_26 rfl) ?_
      refine E.bnd (fun u7 M8 => w M8 30 [(0, .ref t), (1, .int x1_), (2, .int x2_), (3, .int k1)] [.int u7]) (fun u7 M8 hf k => h.callSN (As := [.ref (t + 28), .int k1]) (rest := []) (c_X10_at hW (hW.clo 30 h0 rfl) hf) lm_X10_at ls_m_X10_at 12 rfl rfl rfl (Nat.le_of_ble_eq_true rfl) (by decide) dX8_isNoted_27 rfl k) (fun u7 M8 => ?_)
      refine E.m (h.iload_n 2 dX8_isNoted_30 rfl) ?_
      refine E.br (fun k1 k2 => h.icmp_eq (tgt := 36) dX8_isNoted_31 (by decide) k1 k2) ?_ ?_
      · exact hJ36 _
      · refine E.m (h.iconst (v := (0 : Int32)) dX8_isNoted_34 (by decide)) ?_
        exact E.some (ret_i hr rfl dX8_isNoted_35)
    · exact hJ36 _
def l_X2_agrees_25 (t : Nat) (r1_ : Nat) (r2_ : Nat) (k4 : Int32) (M5 : Mem) : Option ((Int32 × Mem) ⊕ (Int32 × Mem)) :=
  if (60 : Int32) < k4 then (some (.inr ((1 : Int32), M5))) else (bd (f_X5_level (t + 1 + 5) (M5.1 r2_ 0) M5) (fun u6 M7 => bd (f_X8_isNoted r1_ k4 u6 M7) (fun u8 M9 => if u8 = 0 then (some (.inr ((0 : Int32), M9))) else (jn1 (fun M10 => bd (f_X9_step (t + 1) r2_ M10) (fun _ M12 => nm (k4 + (1 : Int32)) (fun y13 => some (.inl (y13, M12))))) (fun J90 => if k4 ≤ 0 then (J90 M9) else (if (k4 - k4 / (10 : Int32) * (10 : Int32)) = 0 then (bd (f_X10_put (t + 13) 5 ((k4 / (10 : Int32)) - (1 : Int32)) u6 M9) (fun _ M15 => J90 M15)) else (J90 M9)))))))
def f_X2_agrees (t : Nat) (r1_ : Nat) (r2_ : Nat) (x3_ : Int32) (M : Mem) : Option (Int32 × Mem) :=
  bd (f_X9_copyFrom (t + 1) (r1_ + 1) M) (fun _ M2 => nm (wi M2 (t + 1 + 1) 0 x3_) (fun M3 => lop2 FU (l_X2_agrees_25 t r1_ r2_) (0 : Int32) M3))
set_option maxRecDepth 20000 in
theorem c_X2_agrees {G : Ctx} (hW : WFG G) {t : Nat} {r1_ : Nat} {r2_ : Nat} {x3_ : Int32} {M M' : Mem} {r : Int32} (h0 : hs G t (0, 2)) (h1 : hs G r1_ (0, 8)) (h2 : hs G r2_ (0, 3)) (hf : f_X2_agrees t r1_ r2_ x3_ M = some (r, M')) : Ct G yX2_agrees cX2_agrees 6 (some .boolean) 5 148 [.ref t, .ref r1_, .ref r2_, .int x3_] M (some (.int r)) M' := by
  refine ct_i hW (by decide +kernel) (Nat.le_of_ble_eq_true rfl) (fun w h hr => ?_)
  have h : Rb G cX2_agrees RX2 6 5 148 w := h
  refine (?_ : E (fun q => q = (r, M')) (f_X2_agrees t r1_ r2_ x3_ M) (w M 0 [(0, .ref t), (1, .ref r1_), (2, .ref r2_), (3, .int x3_)] [])) _ hf rfl
  unfold f_X2_agrees
  refine E.m (h.aload_n 0 dX2_agrees_0 rfl) ?_
  refine E.m (h.get h0 lf_RX2_12 dX2_agrees_1 fv_2_0) ?_
  refine E.m (h.aload_n 1 dX2_agrees_4 rfl) ?_
  refine E.m (h.get h1 lf_RX2_127 dX2_agrees_5 fv_8_0) ?_
  refine E.bnd (fun _ M2 => w M2 11 [(0, .ref t), (1, .ref r1_), (2, .ref r2_), (3, .int x3_)] []) (fun _ M2 hf k => h.callV (As := [.ref (r1_ + 1)]) (rest := []) (c_X9_copyFrom hW (hW.clo 5 h0 rfl) (hW.clo 25 h1 rfl) hf) lm_X9_copyFrom lv_m_X9_copyFrom ll_RX2_28 (hW.clo 5 h0 rfl) lc_9 rfl rfl (Nat.le_of_ble_eq_true rfl) (by decide) dX2_agrees_8 rfl k) (fun _ M2 => ?_)
  refine E.m (h.aload_n 0 dX2_agrees_11 rfl) ?_
  refine E.m (h.get h0 lf_RX2_12 dX2_agrees_12 fv_2_0) ?_
  refine E.m (h.get (hW.clo 5 h0 rfl) lf_RX2_132 dX2_agrees_15 fv_9_1) ?_
  refine E.m (h.iload_n 3 dX2_agrees_18 rfl) ?_
  refine E.m (h.puti (hW.clo 32 (hW.clo 5 h0 rfl) rfl) lp_RX2_136 rfl dX2_agrees_19) ?_
  refine E.nmM (fun M3 => ?_)
  refine E.m (h.iconst (v := (0 : Int32)) dX2_agrees_22 (by decide)) ?_
  refine E.m (h.istore dX2_agrees_23 (by decide) rfl) ?_
  refine E.m (h.sub [1, 2, 3, 4, 0] rfl) ?_
  refine E.loop2 (fun k4 M5 => w M5 25 [(0, .ref t), (1, .ref r1_), (2, .ref r2_), (3, .int x3_), (4, .int k4)] []) (fun k4 M5 => ?_) _ _ _
  unfold l_X2_agrees_25
  refine E.m (h.iload 4 dX2_agrees_25 rfl) ?_
  refine E.m (h.bipush (v := (60 : Int32)) dX2_agrees_27 (by decide)) ?_
  refine E.br (fun k1 k2 => h.icmp_gt (tgt := 104) dX2_agrees_29 (by decide) k1 k2) ?_ ?_
  · refine E.m (h.iconst (v := (1 : Int32)) dX2_agrees_104 (by decide)) ?_
    exact E.some (ret_i hr rfl dX2_agrees_105)
  · refine E.m (h.aload_n 0 dX2_agrees_32 rfl) ?_
    refine E.m (h.get h0 lf_RX2_12 dX2_agrees_33 fv_2_0) ?_
    refine E.m (h.get (hW.clo 5 h0 rfl) lf_RX2_36 dX2_agrees_36 fv_9_2) ?_
    refine E.m (h.aload_n 2 dX2_agrees_39 rfl) ?_
    refine E.m (h.get h2 lf_RX2_40 dX2_agrees_40 fv_3_0) ?_
    refine E.bnd (fun u6 M7 => w M7 46 [(0, .ref t), (1, .ref r1_), (2, .ref r2_), (3, .int x3_), (4, .int k4)] [.int u6]) (fun u6 M7 hf k => h.callV (As := [.int (M5.1 r2_ 0)]) (rest := []) (c_X5_level hW (hW.clo 33 (hW.clo 5 h0 rfl) rfl) hf) lm_X5_level lv_m_X5_level ll_RX2_46 (hW.clo 33 (hW.clo 5 h0 rfl) rfl) lc_5 rfl rfl (Nat.le_of_ble_eq_true rfl) (by decide) dX2_agrees_43 rfl k) (fun u6 M7 => ?_)
    refine E.m (h.istore dX2_agrees_46 (by decide) rfl) ?_
    refine E.m (h.aload_n 2 dX2_agrees_48 rfl) ?_
    refine E.m (h.iload 5 dX2_agrees_49 rfl) ?_
    refine E.m (h.iload 0 dX2_agrees_51 rfl) ?_
    refine E.bnd (fun u8 M9 => w M9 56 [(5, .int u6), (0, .ref t), (1, .ref r1_), (2, .ref r2_), (3, .int x3_), (4, .int k4)] [.int u8]) (fun u8 M9 hf k => h.callV (As := [.int k4, .int u6]) (rest := []) (c_X8_isNoted hW h1 hf) lm_X8_isNoted lv_m_X8_isNoted ll_RX2_141 h1 lc_8 rfl rfl (Nat.le_of_ble_eq_true rfl) (by decide) dX2_agrees_53 rfl k) (fun u8 M9 => ?_)
    refine E.br (fun k1 k2 => h.if_ne (tgt := 61) dX2_agrees_56 (by decide) k2 k1) ?_ ?_
    · refine E.m (h.iconst (v := (0 : Int32)) dX2_agrees_59 (by decide)) ?_
      exact E.some (ret_i hr rfl dX2_agrees_60)
    · refine E.m (h.iload 5 dX2_agrees_61 rfl) ?_
      refine E.join1 (fun M10 => w M10 90 [(0, .ref t), (1, .ref r1_), (2, .ref r2_), (3, .int x3_), (4, .int k4), (5, .int u6)] []) (fun M10 => ?_) (fun J90 hJ90 => ?_)
      · refine E.m (h.aload_n 0 dX2_agrees_90 rfl) ?_
        refine E.m (h.get h0 lf_RX2_12 dX2_agrees_91 fv_2_0) ?_
        refine E.m (h.aload_n 2 dX2_agrees_94 rfl) ?_
        refine E.bnd (fun _ M12 => w M12 98 [(0, .ref t), (1, .ref r1_), (2, .ref r2_), (3, .int x3_), (4, .int k4), (5, .int u6)] []) (fun _ M12 hf k => h.callV (As := [.ref r2_]) (rest := []) (c_X9_step hW (hW.clo 5 h0 rfl) h2 hf) lm_X9_step lv_m_X9_step ll_RX2_79 (hW.clo 5 h0 rfl) lc_9 rfl rfl (Nat.le_of_ble_eq_true rfl) (by decide) dX2_agrees_95 rfl k) (fun _ M12 => ?_)
        refine E.m (h.iinc (v := (1 : Int32)) 4 dX2_agrees_98 rfl (by decide) (by decide) rfl) ?_
        refine E.nmL (fun y13 => ?_)
        refine E.m (h.goto (tgt := 25) dX2_agrees_101 (by decide)) ?_
        refine E.m (h.sub [1, 2, 3, 4, 0] rfl) ?_
        exact E.some (fun q => q)
      refine E.br (fun k1 k2 => h.if_le (tgt := 90) dX2_agrees_63 (by decide) k1 k2) ?_ ?_
      · refine E.m (h.sub [1, 2, 3, 4, 5, 0] rfl) ?_
        exact hJ90 _
      · refine E.m (h.iload 5 dX2_agrees_66 rfl) ?_
        refine E.m (h.bipush (v := (10 : Int32)) dX2_agrees_68 (by decide)) ?_
        refine E.m (h.irem (by decide) dX2_agrees_70) ?_
        refine E.br (fun k1 k2 => h.if_ne (tgt := 90) dX2_agrees_71 (by decide) k2 k1) ?_ ?_
        · refine E.m (h.aload_n 1 dX2_agrees_74 rfl) ?_
          refine E.m (h.get h0 lf_RX2_18 dX2_agrees_75 fv_2_6) ?_
          refine E.m (h.iload 5 dX2_agrees_78 rfl) ?_
          refine E.m (h.bipush (v := (10 : Int32)) dX2_agrees_80 (by decide)) ?_
          refine E.m (h.idiv (by decide) dX2_agrees_82) ?_
          refine E.m (h.iconst (v := (1 : Int32)) dX2_agrees_83 (by decide)) ?_
          refine E.m (h.isub dX2_agrees_84) ?_
          refine E.m (h.iload 0 dX2_agrees_85 rfl) ?_
          refine E.bnd (fun _ M15 => w M15 90 [(5, .int u6), (0, .ref t), (1, .ref r1_), (2, .ref r2_), (3, .int x3_), (4, .int k4)] []) (fun _ M15 hf k => h.callSN (As := [.ref (t + 13), .int ((k4 / (10 : Int32)) - (1 : Int32)), .int u6]) (rest := []) (c_X10_put hW (hW.clo 6 h0 rfl) hf) lm_X10_put ls_m_X10_put 38 rfl rfl rfl (Nat.le_of_ble_eq_true rfl) (by decide) dX2_agrees_87 rfl k) (fun _ M15 => ?_)
          refine E.m (h.sub [1, 2, 3, 4, 5, 0] rfl) ?_
          exact hJ90 _
        · refine E.m (h.sub [1, 2, 3, 4, 5, 0] rfl) ?_
          exact hJ90 _
def l_X2_seeLooks_2 (t : Nat) (k1 : Int32) (M2 : Mem) : Option ((Int32 × Mem) ⊕ (Unit × Mem)) :=
  if (5 : Int32) ≤ k1 then (some (.inr ((), M2))) else (bd (f_X10_at (t + 13) 5 k1 M2) (fun u3 M4 => nm ((k1 * (129 : Int32)) + u3) (fun y5 => bd (f_X10_at (t + 15) 645 y5 M4) (fun u6 M7 => jn1 (fun M8 => nm (k1 + (1 : Int32)) (fun y9 => some (.inl (y9, M8)))) (fun J60 => if u6 = 0 then (bd (f_X10_put (t + 15) 645 y5 (1 : Int32) M7) (fun _ M11 => bd (f_X10_at (t + 14) 5 k1 M11) (fun u12 M13 => bd (f_X10_put (t + 14) 5 k1 (u12 + (1 : Int32)) M13) (fun _ M15 => J60 M15)))) else (J60 M7))))))
def f_X2_seeLooks (t : Nat) (M : Mem) : Option (Unit × Mem) :=
  lop2 FU (l_X2_seeLooks_2 t) (0 : Int32) M
set_option maxRecDepth 20000 in
theorem c_X2_seeLooks {G : Ctx} (hW : WFG G) {t : Nat} {M M' : Mem} (h0 : hs G t (0, 2)) (hf : f_X2_seeLooks t M = some ((), M')) : Ct G yX2_seeLooks cX2_seeLooks 3 none 1 22 [.ref t] M none M' := by
  refine ct_v hW (by decide +kernel) (Nat.le_of_ble_eq_true rfl) (fun w h hr => ?_)
  have h : Rb G cX2_seeLooks RX2 3 1 22 w := h
  refine (?_ : E (fun q => q = ((), M')) (f_X2_seeLooks t M) (w M 0 [(0, .ref t)] [])) _ hf rfl
  unfold f_X2_seeLooks
  refine E.m (h.iconst (v := (0 : Int32)) dX2_seeLooks_0 (by decide)) ?_
  refine E.m (h.istore_n dX2_seeLooks_1 (by decide) rfl) ?_
  refine E.m (h.sub [1, 0] rfl) ?_
  refine E.loop2 (fun k1 M2 => w M2 2 [(0, .ref t), (1, .int k1)] []) (fun k1 M2 => ?_) _ _ _
  unfold l_X2_seeLooks_2
  refine E.m (h.iload_n 1 dX2_seeLooks_2 rfl) ?_
  refine E.m (h.iconst (v := (5 : Int32)) dX2_seeLooks_3 (by decide)) ?_
  refine E.br (fun k1 k2 => h.icmp_ge (tgt := 66) dX2_seeLooks_4 (by decide) k1 k2) ?_ ?_
  · exact E.some (ret_v hr dX2_seeLooks_66)
  · refine E.m (h.iload_n 1 dX2_seeLooks_7 rfl) ?_
    refine E.m (h.sipush (v := (129 : Int32)) dX2_seeLooks_8 (by decide)) ?_
    refine E.m (h.imul dX2_seeLooks_11) ?_
    refine E.m (h.aload_n 0 dX2_seeLooks_12 rfl) ?_
    refine E.m (h.get h0 lf_RX2_18 dX2_seeLooks_13 fv_2_6) ?_
    refine E.m (h.iload_n 1 dX2_seeLooks_16 rfl) ?_
    refine E.bnd (fun u3 M4 => w M4 20 [(0, .ref t), (1, .int k1)] [.int u3, .int (k1 * (129 : Int32))]) (fun u3 M4 hf k => h.callSN (As := [.ref (t + 13), .int k1]) (rest := [.int (k1 * (129 : Int32))]) (c_X10_at hW (hW.clo 6 h0 rfl) hf) lm_X10_at ls_m_X10_at 39 rfl rfl rfl (Nat.le_of_ble_eq_true rfl) (by decide) dX2_seeLooks_17 rfl k) (fun u3 M4 => ?_)
    refine E.m (h.iadd dX2_seeLooks_20) ?_
    refine E.m (h.istore_n dX2_seeLooks_21 (by decide) rfl) ?_
    refine E.nmL (fun y5 => ?_)
    refine E.m (h.aload_n 1 dX2_seeLooks_22 rfl) ?_
    refine E.m (h.get h0 lf_RX2_25 dX2_seeLooks_23 fv_2_8) ?_
    refine E.m (h.iload_n 0 dX2_seeLooks_26 rfl) ?_
    refine E.bnd (fun u6 M7 => w M7 30 [(2, .int y5), (0, .ref t), (1, .int k1)] [.int u6]) (fun u6 M7 hf k => h.callSN (As := [.ref (t + 15), .int y5]) (rest := []) (c_X10_at hW (hW.clo 8 h0 rfl) hf) lm_X10_at ls_m_X10_at 39 rfl rfl rfl (Nat.le_of_ble_eq_true rfl) (by decide) dX2_seeLooks_27 rfl k) (fun u6 M7 => ?_)
    refine E.join1 (fun M8 => w M8 60 [(0, .ref t), (1, .int k1), (2, .int y5)] []) (fun M8 => ?_) (fun J60 hJ60 => ?_)
    · refine E.m (h.iinc (v := (1 : Int32)) 1 dX2_seeLooks_60 rfl (by decide) (by decide) rfl) ?_
      refine E.nmL (fun y9 => ?_)
      refine E.m (h.goto (tgt := 2) dX2_seeLooks_63 (by decide)) ?_
      refine E.m (h.sub [1, 0] rfl) ?_
      exact E.some (fun q => q)
    refine E.br (fun k1 k2 => h.if_ne (tgt := 60) dX2_seeLooks_30 (by decide) k2 k1) ?_ ?_
    · refine E.m (h.aload_n 1 dX2_seeLooks_33 rfl) ?_
      refine E.m (h.get h0 lf_RX2_25 dX2_seeLooks_34 fv_2_8) ?_
      refine E.m (h.iload_n 0 dX2_seeLooks_37 rfl) ?_
      refine E.m (h.iconst (v := (1 : Int32)) dX2_seeLooks_38 (by decide)) ?_
      refine E.bnd (fun _ M11 => w M11 42 [(2, .int y5), (0, .ref t), (1, .int k1)] []) (fun _ M11 hf k => h.callSN (As := [.ref (t + 15), .int y5, .int (1 : Int32)]) (rest := []) (c_X10_put hW (hW.clo 8 h0 rfl) hf) lm_X10_put ls_m_X10_put 38 rfl rfl rfl (Nat.le_of_ble_eq_true rfl) (by decide) dX2_seeLooks_39 rfl k) (fun _ M11 => ?_)
      refine E.m (h.aload_n 1 dX2_seeLooks_42 rfl) ?_
      refine E.m (h.get h0 lf_RX2_22 dX2_seeLooks_43 fv_2_7) ?_
      refine E.m (h.iload_n 2 dX2_seeLooks_46 rfl) ?_
      refine E.m (h.aload_n 1 dX2_seeLooks_47 rfl) ?_
      refine E.m (h.get h0 lf_RX2_22 dX2_seeLooks_48 fv_2_7) ?_
      refine E.m (h.iload_n 2 dX2_seeLooks_51 rfl) ?_
      refine E.bnd (fun u12 M13 => w M13 55 [(2, .int y5), (0, .ref t), (1, .int k1)] [.int u12, .int k1, .ref (t + 14)]) (fun u12 M13 hf k => h.callSN (As := [.ref (t + 14), .int k1]) (rest := [.int k1, .ref (t + 14)]) (c_X10_at hW (hW.clo 7 h0 rfl) hf) lm_X10_at ls_m_X10_at 39 rfl rfl rfl (Nat.le_of_ble_eq_true rfl) (by decide) dX2_seeLooks_52 rfl k) (fun u12 M13 => ?_)
      refine E.m (h.iconst (v := (1 : Int32)) dX2_seeLooks_55 (by decide)) ?_
      refine E.m (h.iadd dX2_seeLooks_56) ?_
      refine E.bnd (fun _ M15 => w M15 60 [(2, .int y5), (0, .ref t), (1, .int k1)] []) (fun _ M15 hf k => h.callSN (As := [.ref (t + 14), .int k1, .int (u12 + (1 : Int32))]) (rest := []) (c_X10_put hW (hW.clo 7 h0 rfl) hf) lm_X10_put ls_m_X10_put 38 rfl rfl rfl (Nat.le_of_ble_eq_true rfl) (by decide) dX2_seeLooks_57 rfl k) (fun _ M15 => ?_)
      refine E.m (h.sub [1, 2, 0] rfl) ?_
      exact hJ60 _
    · refine E.m (h.sub [1, 2, 0] rfl) ?_
      exact hJ60 _
def l_X2_findOthers_30 (t : Nat) (r1_ : Nat) (r2_ : Nat) (k7 : Int32) (M8 : Mem) : Option ((Int32 × Mem) ⊕ (Unit × Mem)) :=
  if (99 : Int32) < k7 then (some (.inr ((), M8))) else (jn1 (fun M9 => nm (k7 + (1 : Int32)) (fun y10 => some (.inl (y10, M9)))) (fun J89 => if k7 = (M8.1 (r1_ + 1 + 1) 0) then (J89 M8) else (bd (f_X2_agrees t r1_ r2_ k7 M8) (fun u11 M12 => if u11 = 0 then (J89 M12) else (nm (wi M12 t 3 ((M12.1 t 3) + (1 : Int32))) (fun M13 => bd (f_J9_min_7cf53 (M13.1 t 4) k7 M13) (fun u14 M15 => nm (wi M15 t 4 u14) (fun M16 => bd (f_X2_seeLooks t M16) (fun _ M18 => J89 M18)))))))))
def f_X2_findOthers (t : Nat) (r1_ : Nat) (r2_ : Nat) (M : Mem) : Option (Unit × Mem) :=
  nm (wi M t 3 (0 : Int32)) (fun M1 => nm (wi M1 t 4 (100 : Int32)) (fun M2 => bd (f_J7_fill_53178 (t + 14) 5 (0 : Int32) M2) (fun _ M4 => bd (f_J7_fill_53178 (t + 15) 645 (0 : Int32) M4) (fun _ M6 => lop2 FU (l_X2_findOthers_30 t r1_ r2_) (-99 : Int32) M6))))
set_option maxRecDepth 20000 in
theorem c_X2_findOthers {G : Ctx} (hW : WFG G) {t : Nat} {r1_ : Nat} {r2_ : Nat} {M M' : Mem} (h0 : hs G t (0, 2)) (h1 : hs G r1_ (0, 8)) (h2 : hs G r2_ (0, 3)) (hf : f_X2_findOthers t r1_ r2_ M = some ((), M')) : Ct G yX2_findOthers cX2_findOthers 4 none 6 173 [.ref t, .ref r1_, .ref r2_] M none M' := by
  refine ct_v hW (by decide +kernel) (Nat.le_of_ble_eq_true rfl) (fun w h hr => ?_)
  have h : Rb G cX2_findOthers RX2 4 6 173 w := h
  refine (?_ : E (fun q => q = ((), M')) (f_X2_findOthers t r1_ r2_ M) (w M 0 [(0, .ref t), (1, .ref r1_), (2, .ref r2_)] [])) _ hf rfl
  unfold f_X2_findOthers
  refine E.m (h.aload_n 0 dX2_findOthers_0 rfl) ?_
  refine E.m (h.iconst (v := (0 : Int32)) dX2_findOthers_1 (by decide)) ?_
  refine E.m (h.puti h0 lp_RX2_149 rfl dX2_findOthers_2) ?_
  refine E.nmM (fun M1 => ?_)
  refine E.m (h.aload_n 0 dX2_findOthers_5 rfl) ?_
  refine E.m (h.bipush (v := (100 : Int32)) dX2_findOthers_6 (by decide)) ?_
  refine E.m (h.puti h0 lp_RX2_152 rfl dX2_findOthers_8) ?_
  refine E.nmM (fun M2 => ?_)
  refine E.m (h.aload_n 0 dX2_findOthers_11 rfl) ?_
  refine E.m (h.get h0 lf_RX2_22 dX2_findOthers_12 fv_2_7) ?_
  refine E.m (h.iconst (v := (0 : Int32)) dX2_findOthers_15 (by decide)) ?_
  refine E.bnd (fun _ M4 => w M4 19 [(0, .ref t), (1, .ref r1_), (2, .ref r2_)] []) (fun _ M4 hf k => h.callS (As := [.ref (t + 14), .int (0 : Int32)]) (rest := []) (c_J7_fill_53178 hW (hW.clo 7 h0 rfl) hf) lm_J7_fill_53178 ls_m_J7_fill_53178 ll_RX2_155 rfl rfl (Nat.le_of_ble_eq_true rfl) (by decide) dX2_findOthers_16 rfl k) (fun _ M4 => ?_)
  refine E.m (h.aload_n 0 dX2_findOthers_19 rfl) ?_
  refine E.m (h.get h0 lf_RX2_25 dX2_findOthers_20 fv_2_8) ?_
  refine E.m (h.iconst (v := (0 : Int32)) dX2_findOthers_23 (by decide)) ?_
  refine E.bnd (fun _ M6 => w M6 27 [(0, .ref t), (1, .ref r1_), (2, .ref r2_)] []) (fun _ M6 hf k => h.callS (As := [.ref (t + 15), .int (0 : Int32)]) (rest := []) (c_J7_fill_53178 hW (hW.clo 8 h0 rfl) hf) lm_J7_fill_53178 ls_m_J7_fill_53178 ll_RX2_155 rfl rfl (Nat.le_of_ble_eq_true rfl) (by decide) dX2_findOthers_24 rfl k) (fun _ M6 => ?_)
  refine E.m (h.bipush (v := (-99 : Int32)) dX2_findOthers_27 (by decide)) ?_
  refine E.m (h.istore_n dX2_findOthers_29 (by decide) rfl) ?_
  refine E.m (h.sub [1, 2, 3, 0] rfl) ?_
  refine E.loop2 (fun k7 M8 => w M8 30 [(0, .ref t), (1, .ref r1_), (2, .ref r2_), (3, .int k7)] []) (fun k7 M8 => ?_) _ _ _
  unfold l_X2_findOthers_30
  refine E.m (h.iload_n 3 dX2_findOthers_30 rfl) ?_
  refine E.m (h.bipush (v := (99 : Int32)) dX2_findOthers_31 (by decide)) ?_
  refine E.br (fun k1 k2 => h.icmp_gt (tgt := 95) dX2_findOthers_33 (by decide) k1 k2) ?_ ?_
  · exact E.some (ret_v hr dX2_findOthers_95)
  · refine E.m (h.iload_n 3 dX2_findOthers_36 rfl) ?_
    refine E.m (h.aload_n 1 dX2_findOthers_37 rfl) ?_
    refine E.m (h.get h1 lf_RX2_127 dX2_findOthers_38 fv_8_0) ?_
    refine E.m (h.get (hW.clo 25 h1 rfl) lf_RX2_132 dX2_findOthers_41 fv_9_1) ?_
    refine E.m (h.get (hW.clo 32 (hW.clo 25 h1 rfl) rfl) lf_RX2_136 dX2_findOthers_44 fv_1_0) ?_
    refine E.join1 (fun M9 => w M9 89 [(0, .ref t), (1, .ref r1_), (2, .ref r2_), (3, .int k7)] []) (fun M9 => ?_) (fun J89 hJ89 => ?_)
    · refine E.m (h.iinc (v := (1 : Int32)) 3 dX2_findOthers_89 rfl (by decide) (by decide) rfl) ?_
      refine E.nmL (fun y10 => ?_)
      refine E.m (h.goto (tgt := 30) dX2_findOthers_92 (by decide)) ?_
      refine E.m (h.sub [1, 2, 3, 0] rfl) ?_
      exact E.some (fun q => q)
    refine E.br (fun k1 k2 => h.icmp_eq (tgt := 89) dX2_findOthers_47 (by decide) k1 k2) ?_ ?_
    · exact hJ89 _
    · refine E.m (h.aload_n 0 dX2_findOthers_50 rfl) ?_
      refine E.m (h.aload_n 1 dX2_findOthers_51 rfl) ?_
      refine E.m (h.aload_n 2 dX2_findOthers_52 rfl) ?_
      refine E.m (h.iload_n 3 dX2_findOthers_53 rfl) ?_
      refine E.bnd (fun u11 M12 => w M12 57 [(0, .ref t), (1, .ref r1_), (2, .ref r2_), (3, .int k7)] [.int u11]) (fun u11 M12 hf k => h.callV (As := [.ref r1_, .ref r2_, .int k7]) (rest := []) (c_X2_agrees hW h0 h1 h2 hf) lm_X2_agrees lv_m_X2_agrees ll_RX2_161 h0 lc_2 rfl rfl (Nat.le_of_ble_eq_true rfl) (by decide) dX2_findOthers_54 rfl k) (fun u11 M12 => ?_)
      refine E.br (fun k1 k2 => h.if_ne (tgt := 63) dX2_findOthers_57 (by decide) k2 k1) ?_ ?_
      · refine E.m (h.goto (tgt := 89) dX2_findOthers_60 (by decide)) ?_
        exact hJ89 _
      · refine E.m (h.aload_n 0 dX2_findOthers_63 rfl) ?_
        refine E.m (h.dup dX2_findOthers_64 rfl) ?_
        refine E.m (h.get h0 lf_RX2_149 dX2_findOthers_65 fv_2_3) ?_
        refine E.m (h.iconst (v := (1 : Int32)) dX2_findOthers_68 (by decide)) ?_
        refine E.m (h.iadd dX2_findOthers_69) ?_
        refine E.m (h.puti h0 lp_RX2_149 rfl dX2_findOthers_70) ?_
        refine E.nmM (fun M13 => ?_)
        refine E.m (h.aload_n 0 dX2_findOthers_73 rfl) ?_
        refine E.m (h.aload_n 0 dX2_findOthers_74 rfl) ?_
        refine E.m (h.get h0 lf_RX2_152 dX2_findOthers_75 fv_2_4) ?_
        refine E.m (h.iload_n 3 dX2_findOthers_78 rfl) ?_
        refine E.bnd (fun u14 M15 => w M15 82 [(0, .ref t), (1, .ref r1_), (2, .ref r2_), (3, .int k7)] [.int u14, .ref t]) (fun u14 M15 hf k => h.callS (As := [.int (M13.1 t 4), .int k7]) (rest := [.ref t]) (c_J9_min_7cf53 hW hf) lm_J9_min_7cf53 ls_m_J9_min_7cf53 ll_RX2_165 rfl rfl (Nat.le_of_ble_eq_true rfl) (by decide) dX2_findOthers_79 rfl k) (fun u14 M15 => ?_)
        refine E.m (h.puti h0 lp_RX2_152 rfl dX2_findOthers_82) ?_
        refine E.nmM (fun M16 => ?_)
        refine E.m (h.aload_n 0 dX2_findOthers_85 rfl) ?_
        refine E.bnd (fun _ M18 => w M18 89 [(0, .ref t), (1, .ref r1_), (2, .ref r2_), (3, .int k7)] []) (fun _ M18 hf k => h.callV (As := []) (rest := []) (c_X2_seeLooks hW h0 hf) lm_X2_seeLooks lv_m_X2_seeLooks ll_RX2_168 h0 lc_2 rfl rfl (Nat.le_of_ble_eq_true rfl) (by decide) dX2_findOthers_86 rfl k) (fun _ M18 => ?_)
        exact hJ89 _
def l_X2_findLook_12 (t : Nat) (k3 : Int32) (M4 : Mem) : Option ((Int32 × Mem) ⊕ (Unit × Mem)) :=
  if (5 : Int32) ≤ k3 then (some (.inr ((), M4))) else (bd (f_X10_at (t + 14) 5 k3 M4) (fun u5 M6 => jn1 (fun M7 => nm (k3 + (1 : Int32)) (fun y8 => some (.inl (y8, M7)))) (fun J54 => if u5 ≤ (M6.1 t 2) then (J54 M6) else (nm (wi M6 t 1 ((10 : Int32) * (k3 + (1 : Int32)))) (fun M9 => bd (f_X10_at (t + 14) 5 k3 M9) (fun u10 M11 => nm (wi M11 t 2 u10) (fun M12 => J54 M12)))))))
def f_X2_findLook (t : Nat) (M : Mem) : Option (Unit × Mem) :=
  nm (wi M t 1 (-1 : Int32)) (fun M1 => nm (wi M1 t 2 (0 : Int32)) (fun M2 => lop2 FU (l_X2_findLook_12 t) (0 : Int32) M2))
set_option maxRecDepth 20000 in
theorem c_X2_findLook {G : Ctx} (hW : WFG G) {t : Nat} {M M' : Mem} (h0 : hs G t (0, 2)) (hf : f_X2_findLook t M = some ((), M')) : Ct G yX2_findLook cX2_findLook 2 none 1 21 [.ref t] M none M' := by
  refine ct_v hW (by decide +kernel) (Nat.le_of_ble_eq_true rfl) (fun w h hr => ?_)
  have h : Rb G cX2_findLook RX2 2 1 21 w := h
  refine (?_ : E (fun q => q = ((), M')) (f_X2_findLook t M) (w M 0 [(0, .ref t)] [])) _ hf rfl
  unfold f_X2_findLook
  refine E.m (h.aload_n 0 dX2_findLook_0 rfl) ?_
  refine E.m (h.iconst (v := (-1 : Int32)) dX2_findLook_1 (by decide)) ?_
  refine E.m (h.puti h0 lp_RX2_103 rfl dX2_findLook_2) ?_
  refine E.nmM (fun M1 => ?_)
  refine E.m (h.aload_n 0 dX2_findLook_5 rfl) ?_
  refine E.m (h.iconst (v := (0 : Int32)) dX2_findLook_6 (by decide)) ?_
  refine E.m (h.puti h0 lp_RX2_106 rfl dX2_findLook_7) ?_
  refine E.nmM (fun M2 => ?_)
  refine E.m (h.iconst (v := (0 : Int32)) dX2_findLook_10 (by decide)) ?_
  refine E.m (h.istore_n dX2_findLook_11 (by decide) rfl) ?_
  refine E.m (h.sub [1, 0] rfl) ?_
  refine E.loop2 (fun k3 M4 => w M4 12 [(0, .ref t), (1, .int k3)] []) (fun k3 M4 => ?_) _ _ _
  unfold l_X2_findLook_12
  refine E.m (h.iload_n 1 dX2_findLook_12 rfl) ?_
  refine E.m (h.iconst (v := (5 : Int32)) dX2_findLook_13 (by decide)) ?_
  refine E.br (fun k1 k2 => h.icmp_ge (tgt := 60) dX2_findLook_14 (by decide) k1 k2) ?_ ?_
  · exact E.some (ret_v hr dX2_findLook_60)
  · refine E.m (h.aload_n 0 dX2_findLook_17 rfl) ?_
    refine E.m (h.get h0 lf_RX2_22 dX2_findLook_18 fv_2_7) ?_
    refine E.m (h.iload_n 1 dX2_findLook_21 rfl) ?_
    refine E.bnd (fun u5 M6 => w M6 25 [(0, .ref t), (1, .int k3)] [.int u5]) (fun u5 M6 hf k => h.callSN (As := [.ref (t + 14), .int k3]) (rest := []) (c_X10_at hW (hW.clo 7 h0 rfl) hf) lm_X10_at ls_m_X10_at 39 rfl rfl rfl (Nat.le_of_ble_eq_true rfl) (by decide) dX2_findLook_22 rfl k) (fun u5 M6 => ?_)
    refine E.m (h.aload_n 0 dX2_findLook_25 rfl) ?_
    refine E.m (h.get h0 lf_RX2_106 dX2_findLook_26 fv_2_2) ?_
    refine E.join1 (fun M7 => w M7 54 [(0, .ref t), (1, .int k3)] []) (fun M7 => ?_) (fun J54 hJ54 => ?_)
    · refine E.m (h.iinc (v := (1 : Int32)) 1 dX2_findLook_54 rfl (by decide) (by decide) rfl) ?_
      refine E.nmL (fun y8 => ?_)
      refine E.m (h.goto (tgt := 12) dX2_findLook_57 (by decide)) ?_
      refine E.m (h.sub [1, 0] rfl) ?_
      exact E.some (fun q => q)
    refine E.br (fun k1 k2 => h.icmp_le (tgt := 54) dX2_findLook_29 (by decide) k1 k2) ?_ ?_
    · exact hJ54 _
    · refine E.m (h.aload_n 0 dX2_findLook_32 rfl) ?_
      refine E.m (h.bipush (v := (10 : Int32)) dX2_findLook_33 (by decide)) ?_
      refine E.m (h.iload_n 1 dX2_findLook_35 rfl) ?_
      refine E.m (h.iconst (v := (1 : Int32)) dX2_findLook_36 (by decide)) ?_
      refine E.m (h.iadd dX2_findLook_37) ?_
      refine E.m (h.imul dX2_findLook_38) ?_
      refine E.m (h.puti h0 lp_RX2_103 rfl dX2_findLook_39) ?_
      refine E.nmM (fun M9 => ?_)
      refine E.m (h.aload_n 0 dX2_findLook_42 rfl) ?_
      refine E.m (h.aload_n 0 dX2_findLook_43 rfl) ?_
      refine E.m (h.get h0 lf_RX2_22 dX2_findLook_44 fv_2_7) ?_
      refine E.m (h.iload_n 1 dX2_findLook_47 rfl) ?_
      refine E.bnd (fun u10 M11 => w M11 51 [(0, .ref t), (1, .int k3)] [.int u10, .ref t]) (fun u10 M11 hf k => h.callSN (As := [.ref (t + 14), .int k3]) (rest := [.ref t]) (c_X10_at hW (hW.clo 7 h0 rfl) hf) lm_X10_at ls_m_X10_at 39 rfl rfl rfl (Nat.le_of_ble_eq_true rfl) (by decide) dX2_findLook_48 rfl k) (fun u10 M11 => ?_)
      refine E.m (h.puti h0 lp_RX2_106 rfl dX2_findLook_51) ?_
      refine E.nmM (fun M12 => ?_)
      exact hJ54 _
def l_X2_weightOf_5 (x1_ : Int32) (x2_ : Int32) (x3_ : Int32) (M : Mem) (k1 : Int32) (k2 : Int32) : Option ((Int32 × Int32) ⊕ (Int32 × Mem)) :=
  if x2_ ≤ k2 then (some (.inr (k1, M))) else (jn1 (fun z3 => nm (k1 * z3) (fun y4 => nm (k2 + (1 : Int32)) (fun y5 => some (.inl (y4, y5))))) (fun J29 => if ((x1_ >>> (k2 &&& 31)) &&& (1 : Int32)) = 0 then (J29 ((10 : Int32) - x3_)) else (J29 x3_)))
def f_X2_weightOf (x1_ : Int32) (x2_ : Int32) (x3_ : Int32) (M : Mem) : Option (Int32 × Mem) :=
  lop2 FU (l_X2_weightOf_5 x1_ x2_ x3_ M) (1 : Int32) (0 : Int32)
set_option maxRecDepth 20000 in
theorem c_X2_weightOf {G : Ctx} (hW : WFG G) {x1_ : Int32} {x2_ : Int32} {x3_ : Int32} {M M' : Mem} {r : Int32} (hf : f_X2_weightOf x1_ x2_ x3_ M = some (r, M')) : Ct G yX2_weightOf cX2_weightOf 5 (some .int) 0 0 [.int x1_, .int x2_, .int x3_] M (some (.int r)) M' := by
  refine ct_i hW (by decide +kernel) (Nat.le_of_ble_eq_true rfl) (fun w h hr => ?_)
  have h : Rb G cX2_weightOf RX2 5 0 0 w := h
  refine (?_ : E (fun q => q = (r, M')) (f_X2_weightOf x1_ x2_ x3_ M) (w M 0 [(0, .int x1_), (1, .int x2_), (2, .int x3_)] [])) _ hf rfl
  unfold f_X2_weightOf
  refine E.m (h.iconst (v := (1 : Int32)) dX2_weightOf_0 (by decide)) ?_
  refine E.m (h.istore_n dX2_weightOf_1 (by decide) rfl) ?_
  refine E.m (h.iconst (v := (0 : Int32)) dX2_weightOf_2 (by decide)) ?_
  refine E.m (h.istore dX2_weightOf_3 (by decide) rfl) ?_
  refine E.m (h.sub [2, 3, 4, 1, 0] rfl) ?_
  refine E.loop2 (fun k1 k2 => w M 5 [(0, .int x1_), (1, .int x2_), (2, .int x3_), (3, .int k1), (4, .int k2)] []) (fun k1 k2 => ?_) _ _ _
  unfold l_X2_weightOf_5
  refine E.m (h.iload 4 dX2_weightOf_5 rfl) ?_
  refine E.m (h.iload_n 1 dX2_weightOf_7 rfl) ?_
  refine E.br (fun k1 k2 => h.icmp_ge (tgt := 37) dX2_weightOf_8 (by decide) k1 k2) ?_ ?_
  · refine E.m (h.iload_n 3 dX2_weightOf_37 rfl) ?_
    exact E.some (ret_i hr rfl dX2_weightOf_38)
  · refine E.m (h.iload_n 3 dX2_weightOf_11 rfl) ?_
    refine E.m (h.iload_n 0 dX2_weightOf_12 rfl) ?_
    refine E.m (h.iload 4 dX2_weightOf_13 rfl) ?_
    refine E.m (h.ishr dX2_weightOf_15) ?_
    refine E.m (h.iconst (v := (1 : Int32)) dX2_weightOf_16 (by decide)) ?_
    refine E.m (h.iand dX2_weightOf_17) ?_
    refine E.join1 (fun z3 => w M 29 [(0, .int x1_), (1, .int x2_), (2, .int x3_), (3, .int k1), (4, .int k2)] [.int z3, .int k1]) (fun z3 => ?_) (fun J29 hJ29 => ?_)
    · refine E.m (h.imul dX2_weightOf_29) ?_
      refine E.m (h.istore_n dX2_weightOf_30 (by decide) rfl) ?_
      refine E.nmL (fun y4 => ?_)
      refine E.m (h.iinc (v := (1 : Int32)) 4 dX2_weightOf_31 rfl (by decide) (by decide) rfl) ?_
      refine E.nmL (fun y5 => ?_)
      refine E.m (h.goto (tgt := 5) dX2_weightOf_34 (by decide)) ?_
      refine E.m (h.sub [2, 3, 4, 1, 0] rfl) ?_
      exact E.some (fun q => q)
    refine E.br (fun k1 k2 => h.if_eq (tgt := 25) dX2_weightOf_18 (by decide) k1 k2) ?_ ?_
    · refine E.m (h.bipush (v := (10 : Int32)) dX2_weightOf_25 (by decide)) ?_
      refine E.m (h.iload_n 2 dX2_weightOf_27 rfl) ?_
      refine E.m (h.isub dX2_weightOf_28) ?_
      exact hJ29 _
    · refine E.m (h.iload_n 2 dX2_weightOf_21 rfl) ?_
      refine E.m (h.goto (tgt := 29) dX2_weightOf_22 (by decide)) ?_
      exact hJ29 _
def l_X2_isUnharmed_34 (t : Nat) (r1_ : Nat) (r2_ : Nat) (k5 : Int32) (M6 : Mem) : Option ((Int32 × Mem) ⊕ (Int32 × Mem)) :=
  if (80 : Int32) ≤ k5 then (some (.inr ((1 : Int32), M6))) else (bd (f_X9_step (t + 1) r2_ M6) (fun _ M8 => if (M8.1 (t + 1 + 5 + 4) 1) = (M8.1 (r1_ + 5 + 4) 1) then (nm (k5 + (1 : Int32)) (fun y9 => some (.inl (y9, M8)))) else (some (.inr ((0 : Int32), M8)))))
def f_X2_isUnharmed (t : Nat) (r1_ : Nat) (r2_ : Nat) (x3_ : Int32) (x4_ : Int32) (M : Mem) : Option (Int32 × Mem) :=
  bd (f_X9_copyFrom (t + 1) r1_ M) (fun _ M2 => nm (wi M2 (t + 1 + 1) 12 x3_) (fun M3 => nm (wi M3 (t + 1 + 1) 13 x4_) (fun M4 => lop2 FU (l_X2_isUnharmed_34 t r1_ r2_) (0 : Int32) M4)))
set_option maxRecDepth 20000 in
theorem c_X2_isUnharmed {G : Ctx} (hW : WFG G) {t : Nat} {r1_ : Nat} {r2_ : Nat} {x3_ : Int32} {x4_ : Int32} {M M' : Mem} {r : Int32} (h0 : hs G t (0, 2)) (h1 : hs G r1_ (0, 9)) (h2 : hs G r2_ (0, 3)) (hf : f_X2_isUnharmed t r1_ r2_ x3_ x4_ M = some (r, M')) : Ct G yX2_isUnharmed cX2_isUnharmed 6 (some .boolean) 5 148 [.ref t, .ref r1_, .ref r2_, .int x3_, .int x4_] M (some (.int r)) M' := by
  refine ct_i hW (by decide +kernel) (Nat.le_of_ble_eq_true rfl) (fun w h hr => ?_)
  have h : Rb G cX2_isUnharmed RX2 6 5 148 w := h
  refine (?_ : E (fun q => q = (r, M')) (f_X2_isUnharmed t r1_ r2_ x3_ x4_ M) (w M 0 [(0, .ref t), (1, .ref r1_), (2, .ref r2_), (3, .int x3_), (4, .int x4_)] [])) _ hf rfl
  unfold f_X2_isUnharmed
  refine E.m (h.aload_n 0 dX2_isUnharmed_0 rfl) ?_
  refine E.m (h.get h0 lf_RX2_12 dX2_isUnharmed_1 fv_2_0) ?_
  refine E.m (h.aload_n 1 dX2_isUnharmed_4 rfl) ?_
  refine E.bnd (fun _ M2 => w M2 8 [(0, .ref t), (1, .ref r1_), (2, .ref r2_), (3, .int x3_), (4, .int x4_)] []) (fun _ M2 hf k => h.callV (As := [.ref r1_]) (rest := []) (c_X9_copyFrom hW (hW.clo 5 h0 rfl) h1 hf) lm_X9_copyFrom lv_m_X9_copyFrom ll_RX2_28 (hW.clo 5 h0 rfl) lc_9 rfl rfl (Nat.le_of_ble_eq_true rfl) (by decide) dX2_isUnharmed_5 rfl k) (fun _ M2 => ?_)
  refine E.m (h.aload_n 0 dX2_isUnharmed_8 rfl) ?_
  refine E.m (h.get h0 lf_RX2_12 dX2_isUnharmed_9 fv_2_0) ?_
  refine E.m (h.get (hW.clo 5 h0 rfl) lf_RX2_132 dX2_isUnharmed_12 fv_9_1) ?_
  refine E.m (h.iload_n 3 dX2_isUnharmed_15 rfl) ?_
  refine E.m (h.puti (hW.clo 32 (hW.clo 5 h0 rfl) rfl) lp_RX2_183 rfl dX2_isUnharmed_16) ?_
  refine E.nmM (fun M3 => ?_)
  refine E.m (h.aload_n 0 dX2_isUnharmed_19 rfl) ?_
  refine E.m (h.get h0 lf_RX2_12 dX2_isUnharmed_20 fv_2_0) ?_
  refine E.m (h.get (hW.clo 5 h0 rfl) lf_RX2_132 dX2_isUnharmed_23 fv_9_1) ?_
  refine E.m (h.iload 4 dX2_isUnharmed_26 rfl) ?_
  refine E.m (h.puti (hW.clo 32 (hW.clo 5 h0 rfl) rfl) lp_RX2_186 rfl dX2_isUnharmed_28) ?_
  refine E.nmM (fun M4 => ?_)
  refine E.m (h.iconst (v := (0 : Int32)) dX2_isUnharmed_31 (by decide)) ?_
  refine E.m (h.istore dX2_isUnharmed_32 (by decide) rfl) ?_
  refine E.m (h.sub [1, 2, 3, 4, 5, 0] rfl) ?_
  refine E.loop2 (fun k5 M6 => w M6 34 [(0, .ref t), (1, .ref r1_), (2, .ref r2_), (3, .int x3_), (4, .int x4_), (5, .int k5)] []) (fun k5 M6 => ?_) _ _ _
  unfold l_X2_isUnharmed_34
  refine E.m (h.iload 5 dX2_isUnharmed_34 rfl) ?_
  refine E.m (h.bipush (v := (80 : Int32)) dX2_isUnharmed_36 (by decide)) ?_
  refine E.br (fun k1 k2 => h.icmp_ge (tgt := 83) dX2_isUnharmed_38 (by decide) k1 k2) ?_ ?_
  · refine E.m (h.iconst (v := (1 : Int32)) dX2_isUnharmed_83 (by decide)) ?_
    exact E.some (ret_i hr rfl dX2_isUnharmed_84)
  · refine E.m (h.aload_n 0 dX2_isUnharmed_41 rfl) ?_
    refine E.m (h.get h0 lf_RX2_12 dX2_isUnharmed_42 fv_2_0) ?_
    refine E.m (h.aload_n 2 dX2_isUnharmed_45 rfl) ?_
    refine E.bnd (fun _ M8 => w M8 49 [(0, .ref t), (1, .ref r1_), (2, .ref r2_), (3, .int x3_), (4, .int x4_), (5, .int k5)] []) (fun _ M8 hf k => h.callV (As := [.ref r2_]) (rest := []) (c_X9_step hW (hW.clo 5 h0 rfl) h2 hf) lm_X9_step lv_m_X9_step ll_RX2_79 (hW.clo 5 h0 rfl) lc_9 rfl rfl (Nat.le_of_ble_eq_true rfl) (by decide) dX2_isUnharmed_46 rfl k) (fun _ M8 => ?_)
    refine E.m (h.aload_n 0 dX2_isUnharmed_49 rfl) ?_
    refine E.m (h.get h0 lf_RX2_12 dX2_isUnharmed_50 fv_2_0) ?_
    refine E.m (h.get (hW.clo 5 h0 rfl) lf_RX2_36 dX2_isUnharmed_53 fv_9_2) ?_
    refine E.m (h.get (hW.clo 33 (hW.clo 5 h0 rfl) rfl) lf_RX2_58 dX2_isUnharmed_56 fv_5_11) ?_
    refine E.m (h.get (hW.clo 15 (hW.clo 33 (hW.clo 5 h0 rfl) rfl) rfl) lf_RX2_67 dX2_isUnharmed_59 fv_4_1) ?_
    refine E.m (h.aload_n 1 dX2_isUnharmed_62 rfl) ?_
    refine E.m (h.get h1 lf_RX2_36 dX2_isUnharmed_63 fv_9_2) ?_
    refine E.m (h.get (hW.clo 33 h1 rfl) lf_RX2_58 dX2_isUnharmed_66 fv_5_11) ?_
    refine E.m (h.get (hW.clo 15 (hW.clo 33 h1 rfl) rfl) lf_RX2_67 dX2_isUnharmed_69 fv_4_1) ?_
    refine E.br (fun k1 k2 => h.icmp_eq (tgt := 77) dX2_isUnharmed_72 (by decide) k1 k2) ?_ ?_
    · refine E.m (h.iinc (v := (1 : Int32)) 5 dX2_isUnharmed_77 rfl (by decide) (by decide) rfl) ?_
      refine E.nmL (fun y9 => ?_)
      refine E.m (h.goto (tgt := 34) dX2_isUnharmed_80 (by decide)) ?_
      refine E.m (h.sub [1, 2, 3, 4, 5, 0] rfl) ?_
      exact E.some (fun q => q)
    · refine E.m (h.iconst (v := (0 : Int32)) dX2_isUnharmed_75 (by decide)) ?_
      exact E.some (ret_i hr rfl dX2_isUnharmed_76)
def l_X2_unharmed_6 (t : Nat) (r1_ : Nat) (r2_ : Nat) (x3_ : Int32) (x4_ : Int32) (k1 : Int32) (k2 : Int32) (M3 : Mem) : Option ((Int32 × Int32 × Mem) ⊕ (Int32 × Mem)) :=
  if ((1 : Int32) <<< (x3_ &&& 31)) ≤ k2 then (some (.inr (k1, M3))) else (bd (f_X2_weightOf k2 x3_ x4_ M3) (fun u4 M5 => jn2 (fun z6 M7 => nm (k2 + (1 : Int32)) (fun y8 => some (.inl (z6, y8, M7)))) (fun J48 => if u4 ≤ 0 then (J48 k1 M5) else (bd (f_X2_isUnharmed t r1_ r2_ x3_ k2 M5) (fun u9 M10 => if u9 = 0 then (J48 k1 M10) else (nm (k1 + u4) (fun y11 => J48 y11 M10)))))))
def f_X2_unharmed (t : Nat) (r1_ : Nat) (r2_ : Nat) (x3_ : Int32) (x4_ : Int32) (M : Mem) : Option (Int32 × Mem) :=
  lop3 FU (l_X2_unharmed_6 t r1_ r2_ x3_ x4_) (0 : Int32) (0 : Int32) M
set_option maxRecDepth 20000 in
theorem c_X2_unharmed {G : Ctx} (hW : WFG G) {t : Nat} {r1_ : Nat} {r2_ : Nat} {x3_ : Int32} {x4_ : Int32} {M M' : Mem} {r : Int32} (h0 : hs G t (0, 2)) (h1 : hs G r1_ (0, 9)) (h2 : hs G r2_ (0, 3)) (hf : f_X2_unharmed t r1_ r2_ x3_ x4_ M = some (r, M')) : Ct G yX2_unharmed cX2_unharmed 8 (some .int) 6 173 [.ref t, .ref r1_, .ref r2_, .int x3_, .int x4_] M (some (.int r)) M' := by
  refine ct_i hW (by decide +kernel) (Nat.le_of_ble_eq_true rfl) (fun w h hr => ?_)
  have h : Rb G cX2_unharmed RX2 8 6 173 w := h
  refine (?_ : E (fun q => q = (r, M')) (f_X2_unharmed t r1_ r2_ x3_ x4_ M) (w M 0 [(0, .ref t), (1, .ref r1_), (2, .ref r2_), (3, .int x3_), (4, .int x4_)] [])) _ hf rfl
  unfold f_X2_unharmed
  refine E.m (h.iconst (v := (0 : Int32)) dX2_unharmed_0 (by decide)) ?_
  refine E.m (h.istore dX2_unharmed_1 (by decide) rfl) ?_
  refine E.m (h.iconst (v := (0 : Int32)) dX2_unharmed_3 (by decide)) ?_
  refine E.m (h.istore dX2_unharmed_4 (by decide) rfl) ?_
  refine E.m (h.sub [2, 3, 4, 5, 6, 1, 0] rfl) ?_
  refine E.loop3 (fun k1 k2 M3 => w M3 6 [(0, .ref t), (1, .ref r1_), (2, .ref r2_), (3, .int x3_), (4, .int x4_), (5, .int k1), (6, .int k2)] []) (fun k1 k2 M3 => ?_) _ _ _ _
  unfold l_X2_unharmed_6
  refine E.m (h.iload 6 dX2_unharmed_6 rfl) ?_
  refine E.m (h.iconst (v := (1 : Int32)) dX2_unharmed_8 (by decide)) ?_
  refine E.m (h.iload_n 3 dX2_unharmed_9 rfl) ?_
  refine E.m (h.ishl dX2_unharmed_10) ?_
  refine E.br (fun k1 k2 => h.icmp_ge (tgt := 54) dX2_unharmed_11 (by decide) k1 k2) ?_ ?_
  · refine E.m (h.iload 5 dX2_unharmed_54 rfl) ?_
    exact E.some (ret_i hr rfl dX2_unharmed_56)
  · refine E.m (h.iload 6 dX2_unharmed_14 rfl) ?_
    refine E.m (h.iload_n 3 dX2_unharmed_16 rfl) ?_
    refine E.m (h.iload 4 dX2_unharmed_17 rfl) ?_
    refine E.bnd (fun u4 M5 => w M5 22 [(0, .ref t), (1, .ref r1_), (2, .ref r2_), (3, .int x3_), (4, .int x4_), (5, .int k1), (6, .int k2)] [.int u4]) (fun u4 M5 hf k => h.callS (As := [.int k2, .int x3_, .int x4_]) (rest := []) (c_X2_weightOf hW hf) lm_X2_weightOf ls_m_X2_weightOf ll_RX2_175 rfl rfl (Nat.le_of_ble_eq_true rfl) (by decide) dX2_unharmed_19 rfl k) (fun u4 M5 => ?_)
    refine E.m (h.istore dX2_unharmed_22 (by decide) rfl) ?_
    refine E.m (h.iload 0 dX2_unharmed_24 rfl) ?_
    refine E.join2 (fun z6 M7 => w M7 48 [(0, .ref t), (1, .ref r1_), (2, .ref r2_), (3, .int x3_), (4, .int x4_), (5, .int z6), (6, .int k2), (7, .int u4)] []) (fun z6 M7 => ?_) (fun J48 hJ48 => ?_)
    · refine E.m (h.iinc (v := (1 : Int32)) 6 dX2_unharmed_48 rfl (by decide) (by decide) rfl) ?_
      refine E.nmL (fun y8 => ?_)
      refine E.m (h.goto (tgt := 6) dX2_unharmed_51 (by decide)) ?_
      refine E.m (h.sub [1, 2, 3, 4, 5, 6, 0] rfl) ?_
      exact E.some (fun q => q)
    refine E.br (fun k1 k2 => h.if_le (tgt := 48) dX2_unharmed_26 (by decide) k1 k2) ?_ ?_
    · refine E.m (h.sub [1, 2, 3, 4, 5, 6, 7, 0] rfl) ?_
      exact hJ48 _ _
    · refine E.m (h.aload_n 1 dX2_unharmed_29 rfl) ?_
      refine E.m (h.aload_n 2 dX2_unharmed_30 rfl) ?_
      refine E.m (h.aload_n 3 dX2_unharmed_31 rfl) ?_
      refine E.m (h.iload_n 4 dX2_unharmed_32 rfl) ?_
      refine E.m (h.iload 7 dX2_unharmed_33 rfl) ?_
      refine E.bnd (fun u9 M10 => w M10 38 [(7, .int u4), (0, .ref t), (1, .ref r1_), (2, .ref r2_), (3, .int x3_), (4, .int x4_), (5, .int k1), (6, .int k2)] [.int u9]) (fun u9 M10 hf k => h.callV (As := [.ref r1_, .ref r2_, .int x3_, .int k2]) (rest := []) (c_X2_isUnharmed hW h0 h1 h2 hf) lm_X2_isUnharmed lv_m_X2_isUnharmed ll_RX2_179 h0 lc_2 rfl rfl (Nat.le_of_ble_eq_true rfl) (by decide) dX2_unharmed_35 rfl k) (fun u9 M10 => ?_)
      refine E.br (fun k1 k2 => h.if_eq (tgt := 48) dX2_unharmed_38 (by decide) k1 k2) ?_ ?_
      · refine E.m (h.sub [1, 2, 3, 4, 5, 6, 7, 0] rfl) ?_
        exact hJ48 _ _
      · refine E.m (h.iload 6 dX2_unharmed_41 rfl) ?_
        refine E.m (h.iload 0 dX2_unharmed_43 rfl) ?_
        refine E.m (h.iadd dX2_unharmed_45) ?_
        refine E.m (h.istore dX2_unharmed_46 (by decide) rfl) ?_
        refine E.nmL (fun y11 => ?_)
        refine E.m (h.sub [2, 3, 4, 5, 6, 0, 7, 1] rfl) ?_
        exact hJ48 _ _
def f_X2_draw (t : Nat) (x1_ : Int32) (M : Mem) : Option (Int32 × Mem) :=
  nm (wi M t 5 (((M.1 t 5) * (1103515245 : Int32)) + (12345 : Int32))) (fun M1 => bd (f_X10_mod (((M1.1 t 5) >>> ((16 : Int32) &&& 31)) &&& (32767 : Int32)) x1_ M1) (fun u2 M3 => some (u2, M3)))
set_option maxRecDepth 20000 in
theorem c_X2_draw {G : Ctx} (hW : WFG G) {t : Nat} {x1_ : Int32} {M M' : Mem} {r : Int32} (h0 : hs G t (0, 2)) (hf : f_X2_draw t x1_ M = some (r, M')) : Ct G yX2_draw cX2_draw 2 (some .int) 2 43 [.ref t, .int x1_] M (some (.int r)) M' := by
  refine ct_i hW (by decide +kernel) (Nat.le_of_ble_eq_true rfl) (fun w h hr => ?_)
  have h : Rb G cX2_draw RX2 2 2 43 w := h
  refine (?_ : E (fun q => q = (r, M')) (f_X2_draw t x1_ M) (w M 0 [(0, .ref t), (1, .int x1_)] [])) _ hf rfl
  unfold f_X2_draw
  refine E.m (h.aload_n 0 dX2_draw_0 rfl) ?_
  refine E.m (h.aload_n 0 dX2_draw_1 rfl) ?_
  refine E.m (h.get h0 lf_RX2_189 dX2_draw_2 fv_2_5) ?_
  refine E.m (h.ldc li_RX2_205 dX2_draw_5) ?_
  refine E.m (h.imul dX2_draw_7) ?_
  refine E.m (h.sipush (v := (12345 : Int32)) dX2_draw_8 (by decide)) ?_
  refine E.m (h.iadd dX2_draw_11) ?_
  refine E.m (h.puti h0 lp_RX2_189 rfl dX2_draw_12) ?_
  refine E.nmM (fun M1 => ?_)
  refine E.m (h.aload_n 0 dX2_draw_15 rfl) ?_
  refine E.m (h.get h0 lf_RX2_189 dX2_draw_16 fv_2_5) ?_
  refine E.m (h.bipush (v := (16 : Int32)) dX2_draw_19 (by decide)) ?_
  refine E.m (h.ishr dX2_draw_21) ?_
  refine E.m (h.sipush (v := (32767 : Int32)) dX2_draw_22 (by decide)) ?_
  refine E.m (h.iand dX2_draw_25) ?_
  refine E.m (h.iload_n 1 dX2_draw_26 rfl) ?_
  refine E.bnd (fun u2 M3 => w M3 30 [(0, .ref t), (1, .int x1_)] [.int u2]) (fun u2 M3 hf k => h.callSN (As := [.int (((M1.1 t 5) >>> ((16 : Int32) &&& 31)) &&& (32767 : Int32)), .int x1_]) (rest := []) (c_X10_mod hW hf) lm_X10_mod ls_m_X10_mod 40 rfl rfl rfl (Nat.le_of_ble_eq_true rfl) (by decide) dX2_draw_27 rfl k) (fun u2 M3 => ?_)
  exact E.some (ret_i hr rfl dX2_draw_30)
def f_X2_happen (t : Nat) (x1_ : Int32) (M : Mem) : Option (Unit × Mem) :=
  jn1 (fun M1 => some ((), M1)) (fun J70 => if x1_ = 0 then (bd (f_X2_draw t (4 : Int32) M) (fun u8 M9 => nm (wi M9 (t + 1 + 1) 6 u8) (fun M10 => J70 M10))) else (if x1_ = (1 : Int32) then (bd (f_X2_draw t (12 : Int32) M) (fun u5 M6 => nm (wi M6 (t + 1 + 1) 7 u5) (fun M7 => J70 M7))) else (if x1_ = (2 : Int32) then (bd (f_X2_draw t (41 : Int32) M) (fun u2 M3 => nm (wi M3 (t + 1 + 1) 0 (u2 - (20 : Int32))) (fun M4 => J70 M4))) else (J70 M))))
set_option maxRecDepth 20000 in
theorem c_X2_happen {G : Ctx} (hW : WFG G) {t : Nat} {x1_ : Int32} {M M' : Mem} (h0 : hs G t (0, 2)) (hf : f_X2_happen t x1_ M = some ((), M')) : Ct G yX2_happen cX2_happen 2 none 3 64 [.ref t, .int x1_] M none M' := by
  refine ct_v hW (by decide +kernel) (Nat.le_of_ble_eq_true rfl) (fun w h hr => ?_)
  have h : Rb G cX2_happen RX2 2 3 64 w := h
  refine (?_ : E (fun q => q = ((), M')) (f_X2_happen t x1_ M) (w M 0 [(0, .ref t), (1, .int x1_)] [])) _ hf rfl
  unfold f_X2_happen
  refine E.m (h.iload_n 1 dX2_happen_0 rfl) ?_
  refine E.join1 (fun M1 => w M1 70 [(0, .ref t), (1, .int x1_)] []) (fun M1 => ?_) (fun J70 hJ70 => ?_)
  · exact E.some (ret_v hr dX2_happen_70)
  refine E.br (fun k1 k2 => h.if_ne (tgt := 22) dX2_happen_1 (by decide) k2 k1) ?_ ?_
  · refine E.m (h.aload_n 0 dX2_happen_4 rfl) ?_
    refine E.m (h.get h0 lf_RX2_12 dX2_happen_5 fv_2_0) ?_
    refine E.m (h.get (hW.clo 5 h0 rfl) lf_RX2_132 dX2_happen_8 fv_9_1) ?_
    refine E.m (h.aload_n 0 dX2_happen_11 rfl) ?_
    refine E.m (h.iconst (v := (4 : Int32)) dX2_happen_12 (by decide)) ?_
    refine E.bnd (fun u8 M9 => w M9 16 [(0, .ref t), (1, .int x1_)] [.int u8, .ref (t + 1 + 1)]) (fun u8 M9 hf k => h.callV (As := [.int (4 : Int32)]) (rest := [.ref (t + 1 + 1)]) (c_X2_draw hW h0 hf) lm_X2_draw lv_m_X2_draw ll_RX2_192 h0 lc_2 rfl rfl (Nat.le_of_ble_eq_true rfl) (by decide) dX2_happen_13 rfl k) (fun u8 M9 => ?_)
    refine E.m (h.puti (hW.clo 32 (hW.clo 5 h0 rfl) rfl) lp_RX2_199 rfl dX2_happen_16) ?_
    refine E.nmM (fun M10 => ?_)
    refine E.m (h.goto (tgt := 70) dX2_happen_19 (by decide)) ?_
    exact hJ70 _
  · refine E.m (h.iload_n 1 dX2_happen_22 rfl) ?_
    refine E.m (h.iconst (v := (1 : Int32)) dX2_happen_23 (by decide)) ?_
    refine E.br (fun k1 k2 => h.icmp_ne (tgt := 46) dX2_happen_24 (by decide) k2 k1) ?_ ?_
    · refine E.m (h.aload_n 0 dX2_happen_27 rfl) ?_
      refine E.m (h.get h0 lf_RX2_12 dX2_happen_28 fv_2_0) ?_
      refine E.m (h.get (hW.clo 5 h0 rfl) lf_RX2_132 dX2_happen_31 fv_9_1) ?_
      refine E.m (h.aload_n 0 dX2_happen_34 rfl) ?_
      refine E.m (h.bipush (v := (12 : Int32)) dX2_happen_35 (by decide)) ?_
      refine E.bnd (fun u5 M6 => w M6 40 [(0, .ref t), (1, .int x1_)] [.int u5, .ref (t + 1 + 1)]) (fun u5 M6 hf k => h.callV (As := [.int (12 : Int32)]) (rest := [.ref (t + 1 + 1)]) (c_X2_draw hW h0 hf) lm_X2_draw lv_m_X2_draw ll_RX2_192 h0 lc_2 rfl rfl (Nat.le_of_ble_eq_true rfl) (by decide) dX2_happen_37 rfl k) (fun u5 M6 => ?_)
      refine E.m (h.puti (hW.clo 32 (hW.clo 5 h0 rfl) rfl) lp_RX2_202 rfl dX2_happen_40) ?_
      refine E.nmM (fun M7 => ?_)
      refine E.m (h.goto (tgt := 70) dX2_happen_43 (by decide)) ?_
      exact hJ70 _
    · refine E.m (h.iload_n 1 dX2_happen_46 rfl) ?_
      refine E.m (h.iconst (v := (2 : Int32)) dX2_happen_47 (by decide)) ?_
      refine E.br (fun k1 k2 => h.icmp_ne (tgt := 70) dX2_happen_48 (by decide) k2 k1) ?_ ?_
      · refine E.m (h.aload_n 0 dX2_happen_51 rfl) ?_
        refine E.m (h.get h0 lf_RX2_12 dX2_happen_52 fv_2_0) ?_
        refine E.m (h.get (hW.clo 5 h0 rfl) lf_RX2_132 dX2_happen_55 fv_9_1) ?_
        refine E.m (h.aload_n 0 dX2_happen_58 rfl) ?_
        refine E.m (h.bipush (v := (41 : Int32)) dX2_happen_59 (by decide)) ?_
        refine E.bnd (fun u2 M3 => w M3 64 [(0, .ref t), (1, .int x1_)] [.int u2, .ref (t + 1 + 1)]) (fun u2 M3 hf k => h.callV (As := [.int (41 : Int32)]) (rest := [.ref (t + 1 + 1)]) (c_X2_draw hW h0 hf) lm_X2_draw lv_m_X2_draw ll_RX2_192 h0 lc_2 rfl rfl (Nat.le_of_ble_eq_true rfl) (by decide) dX2_happen_61 rfl k) (fun u2 M3 => ?_)
        refine E.m (h.bipush (v := (20 : Int32)) dX2_happen_64 (by decide)) ?_
        refine E.m (h.isub dX2_happen_66) ?_
        refine E.m (h.puti (hW.clo 32 (hW.clo 5 h0 rfl) rfl) lp_RX2_136 rfl dX2_happen_67) ?_
        refine E.nmM (fun M4 => ?_)
        exact hJ70 _
      · exact hJ70 _
def l_X2_byChance_19 (t : Nat) (r1_ : Nat) (r2_ : Nat) (x4_ : Int32) (x5_ : Int32) (k4 : Int32) (k5 : Int32) (M6 : Mem) : Option ((Int32 × Int32 × Mem) ⊕ (Int32 × Mem)) :=
  if x4_ ≤ k5 then (if x5_ = 0 then (some (.inr ((M6.1 (t + 1 + 5 + 4) 1) - (M6.1 (r1_ + 5 + 4) 1), M6))) else (jn1 (fun z7 => some (.inr (z7, M6))) (fun J132 => if x5_ = (1 : Int32) then (J132 ((M6.1 (t + 1 + 5) 9) - (M6.1 (r1_ + 5) 9))) else (J132 k4)))) else (bd (f_X2_draw t (5 : Int32) M6) (fun u8 M9 => bd (f_X2_happen t u8 M9) (fun _ M11 => bd (f_X9_apply (t + 1) r2_ (0 : Int32) (10 : Int32) M11) (fun _ M13 => bd (f_X5_level (t + 1 + 5) (M13.1 r2_ 0) M13) (fun u14 M15 => bd (f_J9_max_7cf53 k4 u14 M15) (fun u16 M17 => nm (k5 + (1 : Int32)) (fun y18 => some (.inl (u16, y18, M17)))))))))
def f_X2_byChance (t : Nat) (r1_ : Nat) (r2_ : Nat) (x3_ : Int32) (x4_ : Int32) (x5_ : Int32) (M : Mem) : Option (Int32 × Mem) :=
  bd (f_X9_copyFrom (t + 1) r1_ M) (fun _ M2 => nm (wi M2 t 5 x3_) (fun M3 => lop3 FU (l_X2_byChance_19 t r1_ r2_ x4_ x5_) (0 : Int32) (0 : Int32) M3))
set_option maxRecDepth 20000 in
theorem c_X2_byChance {G : Ctx} (hW : WFG G) {t : Nat} {r1_ : Nat} {r2_ : Nat} {x3_ : Int32} {x4_ : Int32} {x5_ : Int32} {M M' : Mem} {r : Int32} (h0 : hs G t (0, 2)) (h1 : hs G r1_ (0, 9)) (h2 : hs G r2_ (0, 3)) (hf : f_X2_byChance t r1_ r2_ x3_ x4_ x5_ M = some (r, M')) : Ct G yX2_byChance cX2_byChance 8 (some .int) 6 148 [.ref t, .ref r1_, .ref r2_, .int x3_, .int x4_, .int x5_] M (some (.int r)) M' := by
  refine ct_i hW (by decide +kernel) (Nat.le_of_ble_eq_true rfl) (fun w h hr => ?_)
  have h : Rb G cX2_byChance RX2 8 6 148 w := h
  refine (?_ : E (fun q => q = (r, M')) (f_X2_byChance t r1_ r2_ x3_ x4_ x5_ M) (w M 0 [(0, .ref t), (1, .ref r1_), (2, .ref r2_), (3, .int x3_), (4, .int x4_), (5, .int x5_)] [])) _ hf rfl
  unfold f_X2_byChance
  refine E.m (h.aload_n 0 dX2_byChance_0 rfl) ?_
  refine E.m (h.get h0 lf_RX2_12 dX2_byChance_1 fv_2_0) ?_
  refine E.m (h.aload_n 1 dX2_byChance_4 rfl) ?_
  refine E.bnd (fun _ M2 => w M2 8 [(0, .ref t), (1, .ref r1_), (2, .ref r2_), (3, .int x3_), (4, .int x4_), (5, .int x5_)] []) (fun _ M2 hf k => h.callV (As := [.ref r1_]) (rest := []) (c_X9_copyFrom hW (hW.clo 5 h0 rfl) h1 hf) lm_X9_copyFrom lv_m_X9_copyFrom ll_RX2_28 (hW.clo 5 h0 rfl) lc_9 rfl rfl (Nat.le_of_ble_eq_true rfl) (by decide) dX2_byChance_5 rfl k) (fun _ M2 => ?_)
  refine E.m (h.aload_n 0 dX2_byChance_8 rfl) ?_
  refine E.m (h.iload_n 3 dX2_byChance_9 rfl) ?_
  refine E.m (h.puti h0 lp_RX2_189 rfl dX2_byChance_10) ?_
  refine E.nmM (fun M3 => ?_)
  refine E.m (h.iconst (v := (0 : Int32)) dX2_byChance_13 (by decide)) ?_
  refine E.m (h.istore dX2_byChance_14 (by decide) rfl) ?_
  refine E.m (h.iconst (v := (0 : Int32)) dX2_byChance_16 (by decide)) ?_
  refine E.m (h.istore dX2_byChance_17 (by decide) rfl) ?_
  refine E.m (h.sub [2, 3, 4, 5, 6, 7, 1, 0] rfl) ?_
  refine E.loop3 (fun k4 k5 M6 => w M6 19 [(0, .ref t), (1, .ref r1_), (2, .ref r2_), (3, .int x3_), (4, .int x4_), (5, .int x5_), (6, .int k4), (7, .int k5)] []) (fun k4 k5 M6 => ?_) _ _ _ _
  unfold l_X2_byChance_19
  refine E.m (h.iload 7 dX2_byChance_19 rfl) ?_
  refine E.m (h.iload 4 dX2_byChance_21 rfl) ?_
  refine E.br (fun k1 k2 => h.icmp_ge (tgt := 73) dX2_byChance_23 (by decide) k1 k2) ?_ ?_
  · refine E.m (h.iload 5 dX2_byChance_73 rfl) ?_
    refine E.br (fun k1 k2 => h.if_ne (tgt := 103) dX2_byChance_75 (by decide) k2 k1) ?_ ?_
    · refine E.m (h.aload_n 0 dX2_byChance_78 rfl) ?_
      refine E.m (h.get h0 lf_RX2_12 dX2_byChance_79 fv_2_0) ?_
      refine E.m (h.get (hW.clo 5 h0 rfl) lf_RX2_36 dX2_byChance_82 fv_9_2) ?_
      refine E.m (h.get (hW.clo 33 (hW.clo 5 h0 rfl) rfl) lf_RX2_58 dX2_byChance_85 fv_5_11) ?_
      refine E.m (h.get (hW.clo 15 (hW.clo 33 (hW.clo 5 h0 rfl) rfl) rfl) lf_RX2_67 dX2_byChance_88 fv_4_1) ?_
      refine E.m (h.aload_n 1 dX2_byChance_91 rfl) ?_
      refine E.m (h.get h1 lf_RX2_36 dX2_byChance_92 fv_9_2) ?_
      refine E.m (h.get (hW.clo 33 h1 rfl) lf_RX2_58 dX2_byChance_95 fv_5_11) ?_
      refine E.m (h.get (hW.clo 15 (hW.clo 33 h1 rfl) rfl) lf_RX2_67 dX2_byChance_98 fv_4_1) ?_
      refine E.m (h.isub dX2_byChance_101) ?_
      exact E.some (ret_i hr rfl dX2_byChance_102)
    · refine E.m (h.iload 5 dX2_byChance_103 rfl) ?_
      refine E.m (h.iconst (v := (1 : Int32)) dX2_byChance_105 (by decide)) ?_
      refine E.join1 (fun z7 => w M6 132 [(0, .ref t), (1, .ref r1_), (2, .ref r2_), (3, .int x3_), (4, .int x4_), (5, .int x5_), (6, .int k4), (7, .int k5)] [.int z7]) (fun z7 => ?_) (fun J132 hJ132 => ?_)
      · exact E.some (ret_i hr rfl dX2_byChance_132)
      refine E.br (fun k1 k2 => h.icmp_ne (tgt := 130) dX2_byChance_106 (by decide) k2 k1) ?_ ?_
      · refine E.m (h.aload_n 0 dX2_byChance_109 rfl) ?_
        refine E.m (h.get h0 lf_RX2_12 dX2_byChance_110 fv_2_0) ?_
        refine E.m (h.get (hW.clo 5 h0 rfl) lf_RX2_36 dX2_byChance_113 fv_9_2) ?_
        refine E.m (h.get (hW.clo 33 (hW.clo 5 h0 rfl) rfl) lf_RX2_89 dX2_byChance_116 fv_5_9) ?_
        refine E.m (h.aload_n 1 dX2_byChance_119 rfl) ?_
        refine E.m (h.get h1 lf_RX2_36 dX2_byChance_120 fv_9_2) ?_
        refine E.m (h.get (hW.clo 33 h1 rfl) lf_RX2_89 dX2_byChance_123 fv_5_9) ?_
        refine E.m (h.isub dX2_byChance_126) ?_
        refine E.m (h.goto (tgt := 132) dX2_byChance_127 (by decide)) ?_
        exact hJ132 _
      · refine E.m (h.iload 6 dX2_byChance_130 rfl) ?_
        exact hJ132 _
  · refine E.m (h.aload_n 0 dX2_byChance_26 rfl) ?_
    refine E.m (h.aload_n 0 dX2_byChance_27 rfl) ?_
    refine E.m (h.iconst (v := (5 : Int32)) dX2_byChance_28 (by decide)) ?_
    refine E.bnd (fun u8 M9 => w M9 32 [(0, .ref t), (1, .ref r1_), (2, .ref r2_), (3, .int x3_), (4, .int x4_), (5, .int x5_), (6, .int k4), (7, .int k5)] [.int u8, .ref t]) (fun u8 M9 hf k => h.callV (As := [.int (5 : Int32)]) (rest := [.ref t]) (c_X2_draw hW h0 hf) lm_X2_draw lv_m_X2_draw ll_RX2_192 h0 lc_2 rfl rfl (Nat.le_of_ble_eq_true rfl) (by decide) dX2_byChance_29 rfl k) (fun u8 M9 => ?_)
    refine E.bnd (fun _ M11 => w M11 35 [(0, .ref t), (1, .ref r1_), (2, .ref r2_), (3, .int x3_), (4, .int x4_), (5, .int x5_), (6, .int k4), (7, .int k5)] []) (fun _ M11 hf k => h.callV (As := [.int u8]) (rest := []) (c_X2_happen hW h0 hf) lm_X2_happen lv_m_X2_happen ll_RX2_195 h0 lc_2 rfl rfl (Nat.le_of_ble_eq_true rfl) (by decide) dX2_byChance_32 rfl k) (fun _ M11 => ?_)
    refine E.m (h.aload_n 0 dX2_byChance_35 rfl) ?_
    refine E.m (h.get h0 lf_RX2_12 dX2_byChance_36 fv_2_0) ?_
    refine E.m (h.aload_n 2 dX2_byChance_39 rfl) ?_
    refine E.m (h.iconst (v := (0 : Int32)) dX2_byChance_40 (by decide)) ?_
    refine E.m (h.bipush (v := (10 : Int32)) dX2_byChance_41 (by decide)) ?_
    refine E.bnd (fun _ M13 => w M13 46 [(0, .ref t), (1, .ref r1_), (2, .ref r2_), (3, .int x3_), (4, .int x4_), (5, .int x5_), (6, .int k4), (7, .int k5)] []) (fun _ M13 hf k => h.callV (As := [.ref r2_, .int (0 : Int32), .int (10 : Int32)]) (rest := []) (c_X9_apply hW (hW.clo 5 h0 rfl) h2 hf) lm_X9_apply lv_m_X9_apply ll_RX2_32 (hW.clo 5 h0 rfl) lc_9 rfl rfl (Nat.le_of_ble_eq_true rfl) (by decide) dX2_byChance_43 rfl k) (fun _ M13 => ?_)
    refine E.m (h.iload 6 dX2_byChance_46 rfl) ?_
    refine E.m (h.aload_n 0 dX2_byChance_48 rfl) ?_
    refine E.m (h.get h0 lf_RX2_12 dX2_byChance_49 fv_2_0) ?_
    refine E.m (h.get (hW.clo 5 h0 rfl) lf_RX2_36 dX2_byChance_52 fv_9_2) ?_
    refine E.m (h.aload_n 2 dX2_byChance_55 rfl) ?_
    refine E.m (h.get h2 lf_RX2_40 dX2_byChance_56 fv_3_0) ?_
    refine E.bnd (fun u14 M15 => w M15 62 [(0, .ref t), (1, .ref r1_), (2, .ref r2_), (3, .int x3_), (4, .int x4_), (5, .int x5_), (6, .int k4), (7, .int k5)] [.int u14, .int k4]) (fun u14 M15 hf k => h.callV (As := [.int (M13.1 r2_ 0)]) (rest := [.int k4]) (c_X5_level hW (hW.clo 33 (hW.clo 5 h0 rfl) rfl) hf) lm_X5_level lv_m_X5_level ll_RX2_46 (hW.clo 33 (hW.clo 5 h0 rfl) rfl) lc_5 rfl rfl (Nat.le_of_ble_eq_true rfl) (by decide) dX2_byChance_59 rfl k) (fun u14 M15 => ?_)
    refine E.bnd (fun u16 M17 => w M17 65 [(0, .ref t), (1, .ref r1_), (2, .ref r2_), (3, .int x3_), (4, .int x4_), (5, .int x5_), (6, .int k4), (7, .int k5)] [.int u16]) (fun u16 M17 hf k => h.callS (As := [.int k4, .int u14]) (rest := []) (c_J9_max_7cf53 hW hf) lm_J9_max_7cf53 ls_m_J9_max_7cf53 ll_RX2_123 rfl rfl (Nat.le_of_ble_eq_true rfl) (by decide) dX2_byChance_62 rfl k) (fun u16 M17 => ?_)
    refine E.m (h.istore dX2_byChance_65 (by decide) rfl) ?_
    refine E.m (h.iinc (v := (1 : Int32)) 7 dX2_byChance_67 rfl (by decide) (by decide) rfl) ?_
    refine E.nmL (fun y18 => ?_)
    refine E.m (h.goto (tgt := 19) dX2_byChance_70 (by decide)) ?_
    refine E.m (h.sub [2, 3, 4, 5, 6, 7, 1, 0] rfl) ?_
    exact E.some (fun q => q)
def f_X8_begin (t : Nat) (r1_ : Nat) (M : Mem) : Option (Unit × Mem) :=
  bd (f_X9_begin (t + 1) r1_ M) (fun _ M2 => bd (f_X9_begin (t + 13) r1_ M2) (fun _ M4 => nm (wi M4 t 2 (0 : Int32)) (fun M5 => nm (wi M5 t 5 (0 : Int32)) (fun M6 => some ((), M6)))))
set_option maxRecDepth 20000 in
theorem c_X8_begin {G : Ctx} (hW : WFG G) {t : Nat} {r1_ : Nat} {M M' : Mem} (h0 : hs G t (0, 8)) (h1 : hs G r1_ (0, 3)) (hf : f_X8_begin t r1_ M = some ((), M')) : Ct G yX8_begin cX8_begin 2 none 5 105 [.ref t, .ref r1_] M none M' := by
  refine ct_v hW (by decide +kernel) (Nat.le_of_ble_eq_true rfl) (fun w h hr => ?_)
  have h : Rb G cX8_begin RX8 2 5 105 w := h
  refine (?_ : E (fun q => q = ((), M')) (f_X8_begin t r1_ M) (w M 0 [(0, .ref t), (1, .ref r1_)] [])) _ hf rfl
  unfold f_X8_begin
  refine E.m (h.aload_n 0 dX8_begin_0 rfl) ?_
  refine E.m (h.get h0 lf_RX8_12 dX8_begin_1 fv_8_0) ?_
  refine E.m (h.aload_n 1 dX8_begin_4 rfl) ?_
  refine E.bnd (fun _ M2 => w M2 8 [(0, .ref t), (1, .ref r1_)] []) (fun _ M2 hf k => h.callV (As := [.ref r1_]) (rest := []) (c_X9_begin hW (hW.clo 25 h0 rfl) h1 hf) lm_X9_begin lv_m_X9_begin ll_RX8_37 (hW.clo 25 h0 rfl) lc_9 rfl rfl (Nat.le_of_ble_eq_true rfl) (by decide) dX8_begin_5 rfl k) (fun _ M2 => ?_)
  refine E.m (h.aload_n 0 dX8_begin_8 rfl) ?_
  refine E.m (h.get h0 lf_RX8_18 dX8_begin_9 fv_8_1) ?_
  refine E.m (h.aload_n 1 dX8_begin_12 rfl) ?_
  refine E.bnd (fun _ M4 => w M4 16 [(0, .ref t), (1, .ref r1_)] []) (fun _ M4 hf k => h.callV (As := [.ref r1_]) (rest := []) (c_X9_begin hW (hW.clo 26 h0 rfl) h1 hf) lm_X9_begin lv_m_X9_begin ll_RX8_37 (hW.clo 26 h0 rfl) lc_9 rfl rfl (Nat.le_of_ble_eq_true rfl) (by decide) dX8_begin_13 rfl k) (fun _ M4 => ?_)
  refine E.m (h.aload_n 0 dX8_begin_16 rfl) ?_
  refine E.m (h.iconst (v := (0 : Int32)) dX8_begin_17 (by decide)) ?_
  refine E.m (h.puti h0 lp_RX8_41 rfl dX8_begin_18) ?_
  refine E.nmM (fun M5 => ?_)
  refine E.m (h.aload_n 0 dX8_begin_21 rfl) ?_
  refine E.m (h.iconst (v := (0 : Int32)) dX8_begin_22 (by decide)) ?_
  refine E.m (h.puti h0 lp_RX8_45 rfl dX8_begin_23) ?_
  refine E.nmM (fun M6 => ?_)
  exact E.some (ret_v hr dX8_begin_26)
def f_X8_copyFrom (t : Nat) (r1_ : Nat) (M : Mem) : Option (Unit × Mem) :=
  bd (f_X9_copyFrom (t + 1) (r1_ + 1) M) (fun _ M2 => bd (f_X9_copyFrom (t + 13) (r1_ + 13) M2) (fun _ M4 => nm (wi M4 t 2 (M4.1 r1_ 2)) (fun M5 => bd (f_X10_copyRow (r1_ + 25) 40 (t + 25) 40 M5) (fun _ M7 => bd (f_X10_copyRow (r1_ + 26) 40 (t + 26) 40 M7) (fun _ M9 => nm (wi M9 t 5 (M9.1 r1_ 5)) (fun M10 => bd (f_X10_copyRow (r1_ + 27) 8 (t + 27) 8 M10) (fun _ M12 => bd (f_X10_copyRow (r1_ + 28) 8 (t + 28) 8 M12) (fun _ M14 => bd (f_X10_copyRow (r1_ + 29) 3 (t + 29) 3 M14) (fun _ M16 => some ((), M16))))))))))
set_option maxRecDepth 20000 in
theorem c_X8_copyFrom {G : Ctx} (hW : WFG G) {t : Nat} {r1_ : Nat} {M M' : Mem} (h0 : hs G t (0, 8)) (h1 : hs G r1_ (0, 8)) (hf : f_X8_copyFrom t r1_ M = some ((), M')) : Ct G yX8_copyFrom cX8_copyFrom 2 none 5 148 [.ref t, .ref r1_] M none M' := by
  refine ct_v hW (by decide +kernel) (Nat.le_of_ble_eq_true rfl) (fun w h hr => ?_)
  have h : Rb G cX8_copyFrom RX8 2 5 148 w := h
  refine (?_ : E (fun q => q = ((), M')) (f_X8_copyFrom t r1_ M) (w M 0 [(0, .ref t), (1, .ref r1_)] [])) _ hf rfl
  unfold f_X8_copyFrom
  refine E.m (h.aload_n 0 dX8_copyFrom_0 rfl) ?_
  refine E.m (h.get h0 lf_RX8_12 dX8_copyFrom_1 fv_8_0) ?_
  refine E.m (h.aload_n 1 dX8_copyFrom_4 rfl) ?_
  refine E.m (h.get h1 lf_RX8_12 dX8_copyFrom_5 fv_8_0) ?_
  refine E.bnd (fun _ M2 => w M2 11 [(0, .ref t), (1, .ref r1_)] []) (fun _ M2 hf k => h.callV (As := [.ref (r1_ + 1)]) (rest := []) (c_X9_copyFrom hW (hW.clo 25 h0 rfl) (hW.clo 25 h1 rfl) hf) lm_X9_copyFrom lv_m_X9_copyFrom ll_RX8_48 (hW.clo 25 h0 rfl) lc_9 rfl rfl (Nat.le_of_ble_eq_true rfl) (by decide) dX8_copyFrom_8 rfl k) (fun _ M2 => ?_)
  refine E.m (h.aload_n 0 dX8_copyFrom_11 rfl) ?_
  refine E.m (h.get h0 lf_RX8_18 dX8_copyFrom_12 fv_8_1) ?_
  refine E.m (h.aload_n 1 dX8_copyFrom_15 rfl) ?_
  refine E.m (h.get h1 lf_RX8_18 dX8_copyFrom_16 fv_8_1) ?_
  refine E.bnd (fun _ M4 => w M4 22 [(0, .ref t), (1, .ref r1_)] []) (fun _ M4 hf k => h.callV (As := [.ref (r1_ + 13)]) (rest := []) (c_X9_copyFrom hW (hW.clo 26 h0 rfl) (hW.clo 26 h1 rfl) hf) lm_X9_copyFrom lv_m_X9_copyFrom ll_RX8_48 (hW.clo 26 h0 rfl) lc_9 rfl rfl (Nat.le_of_ble_eq_true rfl) (by decide) dX8_copyFrom_19 rfl k) (fun _ M4 => ?_)
  refine E.m (h.aload_n 0 dX8_copyFrom_22 rfl) ?_
  refine E.m (h.aload_n 1 dX8_copyFrom_23 rfl) ?_
  refine E.m (h.get h1 lf_RX8_41 dX8_copyFrom_24 fv_8_2) ?_
  refine E.m (h.puti h0 lp_RX8_41 rfl dX8_copyFrom_27) ?_
  refine E.nmM (fun M5 => ?_)
  refine E.m (h.aload_n 1 dX8_copyFrom_30 rfl) ?_
  refine E.m (h.get h1 lf_RX8_21 dX8_copyFrom_31 fv_8_3) ?_
  refine E.m (h.aload_n 0 dX8_copyFrom_34 rfl) ?_
  refine E.m (h.get h0 lf_RX8_21 dX8_copyFrom_35 fv_8_3) ?_
  refine E.bnd (fun _ M7 => w M7 41 [(0, .ref t), (1, .ref r1_)] []) (fun _ M7 hf k => h.callSN (As := [.ref (r1_ + 25), .ref (t + 25)]) (rest := []) (c_X10_copyRow hW (hW.clo 27 h1 rfl) (hW.clo 27 h0 rfl) hf) lm_X10_copyRow ls_m_X10_copyRow 35 rfl rfl rfl (Nat.le_of_ble_eq_true rfl) (by decide) dX8_copyFrom_38 rfl k) (fun _ M7 => ?_)
  refine E.m (h.aload_n 1 dX8_copyFrom_41 rfl) ?_
  refine E.m (h.get h1 lf_RX8_25 dX8_copyFrom_42 fv_8_4) ?_
  refine E.m (h.aload_n 0 dX8_copyFrom_45 rfl) ?_
  refine E.m (h.get h0 lf_RX8_25 dX8_copyFrom_46 fv_8_4) ?_
  refine E.bnd (fun _ M9 => w M9 52 [(0, .ref t), (1, .ref r1_)] []) (fun _ M9 hf k => h.callSN (As := [.ref (r1_ + 26), .ref (t + 26)]) (rest := []) (c_X10_copyRow hW (hW.clo 28 h1 rfl) (hW.clo 28 h0 rfl) hf) lm_X10_copyRow ls_m_X10_copyRow 35 rfl rfl rfl (Nat.le_of_ble_eq_true rfl) (by decide) dX8_copyFrom_49 rfl k) (fun _ M9 => ?_)
  refine E.m (h.aload_n 0 dX8_copyFrom_52 rfl) ?_
  refine E.m (h.aload_n 1 dX8_copyFrom_53 rfl) ?_
  refine E.m (h.get h1 lf_RX8_45 dX8_copyFrom_54 fv_8_5) ?_
  refine E.m (h.puti h0 lp_RX8_45 rfl dX8_copyFrom_57) ?_
  refine E.nmM (fun M10 => ?_)
  refine E.m (h.aload_n 1 dX8_copyFrom_60 rfl) ?_
  refine E.m (h.get h1 lf_RX8_28 dX8_copyFrom_61 fv_8_6) ?_
  refine E.m (h.aload_n 0 dX8_copyFrom_64 rfl) ?_
  refine E.m (h.get h0 lf_RX8_28 dX8_copyFrom_65 fv_8_6) ?_
  refine E.bnd (fun _ M12 => w M12 71 [(0, .ref t), (1, .ref r1_)] []) (fun _ M12 hf k => h.callSN (As := [.ref (r1_ + 27), .ref (t + 27)]) (rest := []) (c_X10_copyRow hW (hW.clo 29 h1 rfl) (hW.clo 29 h0 rfl) hf) lm_X10_copyRow ls_m_X10_copyRow 35 rfl rfl rfl (Nat.le_of_ble_eq_true rfl) (by decide) dX8_copyFrom_68 rfl k) (fun _ M12 => ?_)
  refine E.m (h.aload_n 1 dX8_copyFrom_71 rfl) ?_
  refine E.m (h.get h1 lf_RX8_31 dX8_copyFrom_72 fv_8_7) ?_
  refine E.m (h.aload_n 0 dX8_copyFrom_75 rfl) ?_
  refine E.m (h.get h0 lf_RX8_31 dX8_copyFrom_76 fv_8_7) ?_
  refine E.bnd (fun _ M14 => w M14 82 [(0, .ref t), (1, .ref r1_)] []) (fun _ M14 hf k => h.callSN (As := [.ref (r1_ + 28), .ref (t + 28)]) (rest := []) (c_X10_copyRow hW (hW.clo 30 h1 rfl) (hW.clo 30 h0 rfl) hf) lm_X10_copyRow ls_m_X10_copyRow 35 rfl rfl rfl (Nat.le_of_ble_eq_true rfl) (by decide) dX8_copyFrom_79 rfl k) (fun _ M14 => ?_)
  refine E.m (h.aload_n 1 dX8_copyFrom_82 rfl) ?_
  refine E.m (h.get h1 lf_RX8_34 dX8_copyFrom_83 fv_8_8) ?_
  refine E.m (h.aload_n 0 dX8_copyFrom_86 rfl) ?_
  refine E.m (h.get h0 lf_RX8_34 dX8_copyFrom_87 fv_8_8) ?_
  refine E.bnd (fun _ M16 => w M16 93 [(0, .ref t), (1, .ref r1_)] []) (fun _ M16 hf k => h.callSN (As := [.ref (r1_ + 29), .ref (t + 29)]) (rest := []) (c_X10_copyRow hW (hW.clo 31 h1 rfl) (hW.clo 31 h0 rfl) hf) lm_X10_copyRow ls_m_X10_copyRow 35 rfl rfl rfl (Nat.le_of_ble_eq_true rfl) (by decide) dX8_copyFrom_90 rfl k) (fun _ M16 => ?_)
  exact E.some (ret_v hr dX8_copyFrom_93)
def f_X8_refuse (t : Nat) (x1_ : Int32) (M : Mem) : Option (Unit × Mem) :=
  bd (f_X10_at (t + 29) 3 x1_ M) (fun u1 M2 => bd (f_X10_put (t + 29) 3 x1_ (u1 + (1 : Int32)) M2) (fun _ M4 => some ((), M4)))
set_option maxRecDepth 20000 in
theorem c_X8_refuse {G : Ctx} (hW : WFG G) {t : Nat} {x1_ : Int32} {M M' : Mem} (h0 : hs G t (0, 8)) (hf : f_X8_refuse t x1_ M = some ((), M')) : Ct G yX8_refuse cX8_refuse 2 none 1 22 [.ref t, .int x1_] M none M' := by
  refine ct_v hW (by decide +kernel) (Nat.le_of_ble_eq_true rfl) (fun w h hr => ?_)
  have h : Rb G cX8_refuse RX8 2 1 22 w := h
  refine (?_ : E (fun q => q = ((), M')) (f_X8_refuse t x1_ M) (w M 0 [(0, .ref t), (1, .int x1_)] [])) _ hf rfl
  unfold f_X8_refuse
  refine E.m (h.aload_n 0 dX8_refuse_0 rfl) ?_
  refine E.m (h.get h0 lf_RX8_34 dX8_refuse_1 fv_8_8) ?_
  refine E.m (h.iload_n 1 dX8_refuse_4 rfl) ?_
  refine E.m (h.aload_n 0 dX8_refuse_5 rfl) ?_
  refine E.m (h.get h0 lf_RX8_34 dX8_refuse_6 fv_8_8) ?_
  refine E.m (h.iload_n 1 dX8_refuse_9 rfl) ?_
  refine E.bnd (fun u1 M2 => w M2 13 [(0, .ref t), (1, .int x1_)] [.int u1, .int x1_, .ref (t + 29)]) (fun u1 M2 hf k => h.callSN (As := [.ref (t + 29), .int x1_]) (rest := [.int x1_, .ref (t + 29)]) (c_X10_at hW (hW.clo 31 h0 rfl) hf) lm_X10_at ls_m_X10_at 12 rfl rfl rfl (Nat.le_of_ble_eq_true rfl) (by decide) dX8_refuse_10 rfl k) (fun u1 M2 => ?_)
  refine E.m (h.iconst (v := (1 : Int32)) dX8_refuse_13 (by decide)) ?_
  refine E.m (h.iadd dX8_refuse_14) ?_
  refine E.bnd (fun _ M4 => w M4 18 [(0, .ref t), (1, .int x1_)] []) (fun _ M4 hf k => h.callSN (As := [.ref (t + 29), .int x1_, .int (u1 + (1 : Int32))]) (rest := []) (c_X10_put hW (hW.clo 31 h0 rfl) hf) lm_X10_put ls_m_X10_put 13 rfl rfl rfl (Nat.le_of_ble_eq_true rfl) (by decide) dX8_refuse_15 rfl k) (fun _ M4 => ?_)
  exact E.some (ret_v hr dX8_refuse_18)
def f_X8_act (t : Nat) (r1_ : Nat) (x2_ : Int32) (x3_ : Int32) (M : Mem) : Option (Unit × Mem) :=
  jn1 (fun M1 => bd (f_X10_put (t + 25) 40 (M1.1 t 2) x2_ M1) (fun _ M3 => bd (f_X10_put (t + 26) 40 (M3.1 t 2) x3_ M3) (fun _ M5 => nm (wi M5 t 2 ((M5.1 t 2) + (1 : Int32))) (fun M6 => bd (f_X9_apply (t + 1) r1_ x2_ x3_ M6) (fun _ M8 => some ((), M8)))))) (fun J73 => if (M.1 t 2) < (40 : Int32) then (J73 M) else (bd (f_X10_at (t + 25) 40 (0 : Int32) M) (fun u9 M10 => bd (f_X10_at (t + 26) 40 (0 : Int32) M10) (fun u11 M12 => bd (f_X9_apply (t + 13) r1_ u9 u11 M12) (fun _ M14 => gdp (0 ≤ (1 : Int32).toInt ∧ 0 ≤ (0 : Int32).toInt ∧ 0 ≤ (39 : Int32).toInt ∧ (1 : Int32).toInt + (39 : Int32).toInt ≤ ((40 : Nat) : Int) ∧ (0 : Int32).toInt + (39 : Int32).toInt ≤ ((40 : Nat) : Int)) (nm (wcp M14 (t + 25) (t + 25) (1 : Int32) (0 : Int32) (39 : Int32)) (fun M15 => gdp (0 ≤ (1 : Int32).toInt ∧ 0 ≤ (0 : Int32).toInt ∧ 0 ≤ (39 : Int32).toInt ∧ (1 : Int32).toInt + (39 : Int32).toInt ≤ ((40 : Nat) : Int) ∧ (0 : Int32).toInt + (39 : Int32).toInt ≤ ((40 : Nat) : Int)) (nm (wcp M15 (t + 26) (t + 26) (1 : Int32) (0 : Int32) (39 : Int32)) (fun M16 => nm (wi M16 t 2 ((M16.1 t 2) - (1 : Int32))) (fun M17 => J73 M17))))))))))
set_option maxRecDepth 20000 in
theorem c_X8_act {G : Ctx} (hW : WFG G) {t : Nat} {r1_ : Nat} {x2_ : Int32} {x3_ : Int32} {M M' : Mem} (h0 : hs G t (0, 8)) (h1 : hs G r1_ (0, 3)) (hf : f_X8_act t r1_ x2_ x3_ M = some ((), M')) : Ct G yX8_act cX8_act 4 none 6 143 [.ref t, .ref r1_, .int x2_, .int x3_] M none M' := by
  refine ct_v hW (by decide +kernel) (Nat.le_of_ble_eq_true rfl) (fun w h hr => ?_)
  have h : Rb G cX8_act RX8 4 6 143 w := h
  refine (?_ : E (fun q => q = ((), M')) (f_X8_act t r1_ x2_ x3_ M) (w M 0 [(0, .ref t), (1, .ref r1_), (2, .int x2_), (3, .int x3_)] [])) _ hf rfl
  unfold f_X8_act
  refine E.m (h.aload_n 0 dX8_act_0 rfl) ?_
  refine E.m (h.get h0 lf_RX8_41 dX8_act_1 fv_8_2) ?_
  refine E.m (h.bipush (v := (40 : Int32)) dX8_act_4 (by decide)) ?_
  refine E.join1 (fun M1 => w M1 73 [(0, .ref t), (1, .ref r1_), (2, .int x2_), (3, .int x3_)] []) (fun M1 => ?_) (fun J73 hJ73 => ?_)
  · refine E.m (h.aload_n 0 dX8_act_73 rfl) ?_
    refine E.m (h.get h0 lf_RX8_21 dX8_act_74 fv_8_3) ?_
    refine E.m (h.aload_n 0 dX8_act_77 rfl) ?_
    refine E.m (h.get h0 lf_RX8_41 dX8_act_78 fv_8_2) ?_
    refine E.m (h.iload_n 2 dX8_act_81 rfl) ?_
    refine E.bnd (fun _ M3 => w M3 85 [(0, .ref t), (1, .ref r1_), (2, .int x2_), (3, .int x3_)] []) (fun _ M3 hf k => h.callSN (As := [.ref (t + 25), .int (M1.1 t 2), .int x2_]) (rest := []) (c_X10_put hW (hW.clo 27 h0 rfl) hf) lm_X10_put ls_m_X10_put 13 rfl rfl rfl (Nat.le_of_ble_eq_true rfl) (by decide) dX8_act_82 rfl k) (fun _ M3 => ?_)
    refine E.m (h.aload_n 0 dX8_act_85 rfl) ?_
    refine E.m (h.get h0 lf_RX8_25 dX8_act_86 fv_8_4) ?_
    refine E.m (h.aload_n 0 dX8_act_89 rfl) ?_
    refine E.m (h.get h0 lf_RX8_41 dX8_act_90 fv_8_2) ?_
    refine E.m (h.iload_n 3 dX8_act_93 rfl) ?_
    refine E.bnd (fun _ M5 => w M5 97 [(0, .ref t), (1, .ref r1_), (2, .int x2_), (3, .int x3_)] []) (fun _ M5 hf k => h.callSN (As := [.ref (t + 26), .int (M3.1 t 2), .int x3_]) (rest := []) (c_X10_put hW (hW.clo 28 h0 rfl) hf) lm_X10_put ls_m_X10_put 13 rfl rfl rfl (Nat.le_of_ble_eq_true rfl) (by decide) dX8_act_94 rfl k) (fun _ M5 => ?_)
    refine E.m (h.aload_n 0 dX8_act_97 rfl) ?_
    refine E.m (h.dup dX8_act_98 rfl) ?_
    refine E.m (h.get h0 lf_RX8_41 dX8_act_99 fv_8_2) ?_
    refine E.m (h.iconst (v := (1 : Int32)) dX8_act_102 (by decide)) ?_
    refine E.m (h.iadd dX8_act_103) ?_
    refine E.m (h.puti h0 lp_RX8_41 rfl dX8_act_104) ?_
    refine E.nmM (fun M6 => ?_)
    refine E.m (h.aload_n 0 dX8_act_107 rfl) ?_
    refine E.m (h.get h0 lf_RX8_12 dX8_act_108 fv_8_0) ?_
    refine E.m (h.aload_n 1 dX8_act_111 rfl) ?_
    refine E.m (h.iload_n 2 dX8_act_112 rfl) ?_
    refine E.m (h.iload_n 3 dX8_act_113 rfl) ?_
    refine E.bnd (fun _ M8 => w M8 117 [(0, .ref t), (1, .ref r1_), (2, .int x2_), (3, .int x3_)] []) (fun _ M8 hf k => h.callV (As := [.ref r1_, .int x2_, .int x3_]) (rest := []) (c_X9_apply hW (hW.clo 25 h0 rfl) h1 hf) lm_X9_apply lv_m_X9_apply ll_RX8_64 (hW.clo 25 h0 rfl) lc_9 rfl rfl (Nat.le_of_ble_eq_true rfl) (by decide) dX8_act_114 rfl k) (fun _ M8 => ?_)
    exact E.some (ret_v hr dX8_act_117)
  refine E.br (fun k1 k2 => h.icmp_lt (tgt := 73) dX8_act_6 (by decide) k1 k2) ?_ ?_
  · exact hJ73 _
  · refine E.m (h.aload_n 0 dX8_act_9 rfl) ?_
    refine E.m (h.get h0 lf_RX8_18 dX8_act_10 fv_8_1) ?_
    refine E.m (h.aload_n 1 dX8_act_13 rfl) ?_
    refine E.m (h.aload_n 0 dX8_act_14 rfl) ?_
    refine E.m (h.get h0 lf_RX8_21 dX8_act_15 fv_8_3) ?_
    refine E.m (h.iconst (v := (0 : Int32)) dX8_act_18 (by decide)) ?_
    refine E.bnd (fun u9 M10 => w M10 22 [(0, .ref t), (1, .ref r1_), (2, .int x2_), (3, .int x3_)] [.int u9, .ref r1_, .ref (t + 13)]) (fun u9 M10 hf k => h.callSN (As := [.ref (t + 25), .int (0 : Int32)]) (rest := [.ref r1_, .ref (t + 13)]) (c_X10_at hW (hW.clo 27 h0 rfl) hf) lm_X10_at ls_m_X10_at 12 rfl rfl rfl (Nat.le_of_ble_eq_true rfl) (by decide) dX8_act_19 rfl k) (fun u9 M10 => ?_)
    refine E.m (h.aload_n 0 dX8_act_22 rfl) ?_
    refine E.m (h.get h0 lf_RX8_25 dX8_act_23 fv_8_4) ?_
    refine E.m (h.iconst (v := (0 : Int32)) dX8_act_26 (by decide)) ?_
    refine E.bnd (fun u11 M12 => w M12 30 [(0, .ref t), (1, .ref r1_), (2, .int x2_), (3, .int x3_)] [.int u11, .int u9, .ref r1_, .ref (t + 13)]) (fun u11 M12 hf k => h.callSN (As := [.ref (t + 26), .int (0 : Int32)]) (rest := [.int u9, .ref r1_, .ref (t + 13)]) (c_X10_at hW (hW.clo 28 h0 rfl) hf) lm_X10_at ls_m_X10_at 12 rfl rfl rfl (Nat.le_of_ble_eq_true rfl) (by decide) dX8_act_27 rfl k) (fun u11 M12 => ?_)
    refine E.bnd (fun _ M14 => w M14 33 [(0, .ref t), (1, .ref r1_), (2, .int x2_), (3, .int x3_)] []) (fun _ M14 hf k => h.callV (As := [.ref r1_, .int u9, .int u11]) (rest := []) (c_X9_apply hW (hW.clo 26 h0 rfl) h1 hf) lm_X9_apply lv_m_X9_apply ll_RX8_64 (hW.clo 26 h0 rfl) lc_9 rfl rfl (Nat.le_of_ble_eq_true rfl) (by decide) dX8_act_30 rfl k) (fun _ M14 => ?_)
    refine E.m (h.aload_n 0 dX8_act_33 rfl) ?_
    refine E.m (h.get h0 lf_RX8_21 dX8_act_34 fv_8_3) ?_
    refine E.m (h.iconst (v := (1 : Int32)) dX8_act_37 (by decide)) ?_
    refine E.m (h.aload_n 0 dX8_act_38 rfl) ?_
    refine E.m (h.get h0 lf_RX8_21 dX8_act_39 fv_8_3) ?_
    refine E.m (h.iconst (v := (0 : Int32)) dX8_act_42 (by decide)) ?_
    refine E.m (h.bipush (v := (39 : Int32)) dX8_act_43 (by decide)) ?_
    refine E.gd (fun hg k => h.acopy (hW.clo 27 h0 rfl) (hW.clo 27 h0 rfl) hg ll_RX8_68 (by decide) (Nat.le_of_ble_eq_true rfl) dX8_act_45 k) (fun _ => ?_)
    refine E.nmM (fun M15 => ?_)
    refine E.m (h.aload_n 0 dX8_act_48 rfl) ?_
    refine E.m (h.get h0 lf_RX8_25 dX8_act_49 fv_8_4) ?_
    refine E.m (h.iconst (v := (1 : Int32)) dX8_act_52 (by decide)) ?_
    refine E.m (h.aload_n 0 dX8_act_53 rfl) ?_
    refine E.m (h.get h0 lf_RX8_25 dX8_act_54 fv_8_4) ?_
    refine E.m (h.iconst (v := (0 : Int32)) dX8_act_57 (by decide)) ?_
    refine E.m (h.bipush (v := (39 : Int32)) dX8_act_58 (by decide)) ?_
    refine E.gd (fun hg k => h.acopy (hW.clo 28 h0 rfl) (hW.clo 28 h0 rfl) hg ll_RX8_68 (by decide) (Nat.le_of_ble_eq_true rfl) dX8_act_60 k) (fun _ => ?_)
    refine E.nmM (fun M16 => ?_)
    refine E.m (h.aload_n 0 dX8_act_63 rfl) ?_
    refine E.m (h.dup dX8_act_64 rfl) ?_
    refine E.m (h.get h0 lf_RX8_41 dX8_act_65 fv_8_2) ?_
    refine E.m (h.iconst (v := (1 : Int32)) dX8_act_68 (by decide)) ?_
    refine E.m (h.isub dX8_act_69) ?_
    refine E.m (h.puti h0 lp_RX8_41 rfl dX8_act_70) ?_
    refine E.nmM (fun M17 => ?_)
    exact hJ73 _
def l_X8_takeBack_32 (t : Nat) (r1_ : Nat) (k4 : Int32) (M5 : Mem) : Option ((Int32 × Mem) ⊕ (Int32 × Mem)) :=
  if (M5.1 t 2) ≤ k4 then (some (.inr (M5.1 t 2, M5))) else (bd (f_X10_at (t + 25) 40 k4 M5) (fun u6 M7 => bd (f_X10_at (t + 26) 40 k4 M7) (fun u8 M9 => bd (f_X9_apply (t + 1) r1_ u6 u8 M9) (fun _ M11 => nm (k4 + (1 : Int32)) (fun y12 => some (.inl (y12, M11)))))))
def f_X8_takeBack (t : Nat) (r1_ : Nat) (M : Mem) : Option (Int32 × Mem) :=
  if 0 < (M.1 t 2) then (nm (wi M t 2 ((M.1 t 2) - (1 : Int32))) (fun M1 => bd (f_X9_copyFrom (t + 1) (t + 13) M1) (fun _ M3 => lop2 FU (l_X8_takeBack_32 t r1_) (0 : Int32) M3))) else (some ((-1 : Int32), M))
set_option maxRecDepth 20000 in
theorem c_X8_takeBack {G : Ctx} (hW : WFG G) {t : Nat} {r1_ : Nat} {M M' : Mem} {r : Int32} (h0 : hs G t (0, 8)) (h1 : hs G r1_ (0, 3)) (hf : f_X8_takeBack t r1_ M = some (r, M')) : Ct G yX8_takeBack cX8_takeBack 3 (some .int) 6 148 [.ref t, .ref r1_] M (some (.int r)) M' := by
  refine ct_i hW (by decide +kernel) (Nat.le_of_ble_eq_true rfl) (fun w h hr => ?_)
  have h : Rb G cX8_takeBack RX8 3 6 148 w := h
  refine (?_ : E (fun q => q = (r, M')) (f_X8_takeBack t r1_ M) (w M 0 [(0, .ref t), (1, .ref r1_)] [])) _ hf rfl
  unfold f_X8_takeBack
  refine E.m (h.aload_n 0 dX8_takeBack_0 rfl) ?_
  refine E.m (h.get h0 lf_RX8_41 dX8_takeBack_1 fv_8_2) ?_
  refine E.br (fun k1 k2 => h.if_gt (tgt := 9) dX8_takeBack_4 (by decide) k1 k2) ?_ ?_
  · refine E.m (h.aload_n 0 dX8_takeBack_9 rfl) ?_
    refine E.m (h.dup dX8_takeBack_10 rfl) ?_
    refine E.m (h.get h0 lf_RX8_41 dX8_takeBack_11 fv_8_2) ?_
    refine E.m (h.iconst (v := (1 : Int32)) dX8_takeBack_14 (by decide)) ?_
    refine E.m (h.isub dX8_takeBack_15) ?_
    refine E.m (h.puti h0 lp_RX8_41 rfl dX8_takeBack_16) ?_
    refine E.nmM (fun M1 => ?_)
    refine E.m (h.aload_n 0 dX8_takeBack_19 rfl) ?_
    refine E.m (h.get h0 lf_RX8_12 dX8_takeBack_20 fv_8_0) ?_
    refine E.m (h.aload_n 0 dX8_takeBack_23 rfl) ?_
    refine E.m (h.get h0 lf_RX8_18 dX8_takeBack_24 fv_8_1) ?_
    refine E.bnd (fun _ M3 => w M3 30 [(0, .ref t), (1, .ref r1_)] []) (fun _ M3 hf k => h.callV (As := [.ref (t + 13)]) (rest := []) (c_X9_copyFrom hW (hW.clo 25 h0 rfl) (hW.clo 26 h0 rfl) hf) lm_X9_copyFrom lv_m_X9_copyFrom ll_RX8_48 (hW.clo 25 h0 rfl) lc_9 rfl rfl (Nat.le_of_ble_eq_true rfl) (by decide) dX8_takeBack_27 rfl k) (fun _ M3 => ?_)
    refine E.m (h.iconst (v := (0 : Int32)) dX8_takeBack_30 (by decide)) ?_
    refine E.m (h.istore_n dX8_takeBack_31 (by decide) rfl) ?_
    refine E.m (h.sub [1, 2, 0] rfl) ?_
    refine E.loop2 (fun k4 M5 => w M5 32 [(0, .ref t), (1, .ref r1_), (2, .int k4)] []) (fun k4 M5 => ?_) _ _ _
    unfold l_X8_takeBack_32
    refine E.m (h.iload_n 2 dX8_takeBack_32 rfl) ?_
    refine E.m (h.aload_n 0 dX8_takeBack_33 rfl) ?_
    refine E.m (h.get h0 lf_RX8_41 dX8_takeBack_34 fv_8_2) ?_
    refine E.br (fun k1 k2 => h.icmp_ge (tgt := 70) dX8_takeBack_37 (by decide) k1 k2) ?_ ?_
    · refine E.m (h.aload_n 0 dX8_takeBack_70 rfl) ?_
      refine E.m (h.get h0 lf_RX8_41 dX8_takeBack_71 fv_8_2) ?_
      exact E.some (ret_i hr rfl dX8_takeBack_74)
    · refine E.m (h.aload_n 0 dX8_takeBack_40 rfl) ?_
      refine E.m (h.get h0 lf_RX8_12 dX8_takeBack_41 fv_8_0) ?_
      refine E.m (h.aload_n 1 dX8_takeBack_44 rfl) ?_
      refine E.m (h.aload_n 0 dX8_takeBack_45 rfl) ?_
      refine E.m (h.get h0 lf_RX8_21 dX8_takeBack_46 fv_8_3) ?_
      refine E.m (h.iload_n 2 dX8_takeBack_49 rfl) ?_
      refine E.bnd (fun u6 M7 => w M7 53 [(0, .ref t), (1, .ref r1_), (2, .int k4)] [.int u6, .ref r1_, .ref (t + 1)]) (fun u6 M7 hf k => h.callSN (As := [.ref (t + 25), .int k4]) (rest := [.ref r1_, .ref (t + 1)]) (c_X10_at hW (hW.clo 27 h0 rfl) hf) lm_X10_at ls_m_X10_at 12 rfl rfl rfl (Nat.le_of_ble_eq_true rfl) (by decide) dX8_takeBack_50 rfl k) (fun u6 M7 => ?_)
      refine E.m (h.aload_n 0 dX8_takeBack_53 rfl) ?_
      refine E.m (h.get h0 lf_RX8_25 dX8_takeBack_54 fv_8_4) ?_
      refine E.m (h.iload_n 2 dX8_takeBack_57 rfl) ?_
      refine E.bnd (fun u8 M9 => w M9 61 [(0, .ref t), (1, .ref r1_), (2, .int k4)] [.int u8, .int u6, .ref r1_, .ref (t + 1)]) (fun u8 M9 hf k => h.callSN (As := [.ref (t + 26), .int k4]) (rest := [.int u6, .ref r1_, .ref (t + 1)]) (c_X10_at hW (hW.clo 28 h0 rfl) hf) lm_X10_at ls_m_X10_at 12 rfl rfl rfl (Nat.le_of_ble_eq_true rfl) (by decide) dX8_takeBack_58 rfl k) (fun u8 M9 => ?_)
      refine E.bnd (fun _ M11 => w M11 64 [(0, .ref t), (1, .ref r1_), (2, .int k4)] []) (fun _ M11 hf k => h.callV (As := [.ref r1_, .int u6, .int u8]) (rest := []) (c_X9_apply hW (hW.clo 25 h0 rfl) h1 hf) lm_X9_apply lv_m_X9_apply ll_RX8_64 (hW.clo 25 h0 rfl) lc_9 rfl rfl (Nat.le_of_ble_eq_true rfl) (by decide) dX8_takeBack_61 rfl k) (fun _ M11 => ?_)
      refine E.m (h.iinc (v := (1 : Int32)) 2 dX8_takeBack_64 rfl (by decide) (by decide) rfl) ?_
      refine E.nmL (fun y12 => ?_)
      refine E.m (h.goto (tgt := 32) dX8_takeBack_67 (by decide)) ?_
      refine E.m (h.sub [1, 2, 0] rfl) ?_
      exact E.some (fun q => q)
  · refine E.m (h.iconst (v := (-1 : Int32)) dX8_takeBack_7 (by decide)) ?_
    exact E.some (ret_i hr rfl dX8_takeBack_8)
def f_X8_keepNote (t : Nat) (x1_ : Int32) (x2_ : Int32) (M : Mem) : Option (Int32 × Mem) :=
  bd (f_X10_put (t + 27) 8 (M.1 t 5) x1_ M) (fun _ M2 => bd (f_X10_put (t + 28) 8 (M2.1 t 5) x2_ M2) (fun _ M4 => nm (wi M4 t 5 ((M4.1 t 5) + (1 : Int32))) (fun M5 => some (M5.1 t 5, M5))))
set_option maxRecDepth 20000 in
theorem c_X8_keepNote {G : Ctx} (hW : WFG G) {t : Nat} {x1_ : Int32} {x2_ : Int32} {M M' : Mem} {r : Int32} (h0 : hs G t (0, 8)) (hf : f_X8_keepNote t x1_ x2_ M = some (r, M')) : Ct G yX8_keepNote cX8_keepNote 3 (some .int) 1 22 [.ref t, .int x1_, .int x2_] M (some (.int r)) M' := by
  refine ct_i hW (by decide +kernel) (Nat.le_of_ble_eq_true rfl) (fun w h hr => ?_)
  have h : Rb G cX8_keepNote RX8 3 1 22 w := h
  refine (?_ : E (fun q => q = (r, M')) (f_X8_keepNote t x1_ x2_ M) (w M 0 [(0, .ref t), (1, .int x1_), (2, .int x2_)] [])) _ hf rfl
  unfold f_X8_keepNote
  refine E.m (h.aload_n 0 dX8_keepNote_0 rfl) ?_
  refine E.m (h.get h0 lf_RX8_28 dX8_keepNote_1 fv_8_6) ?_
  refine E.m (h.aload_n 0 dX8_keepNote_4 rfl) ?_
  refine E.m (h.get h0 lf_RX8_45 dX8_keepNote_5 fv_8_5) ?_
  refine E.m (h.iload_n 1 dX8_keepNote_8 rfl) ?_
  refine E.bnd (fun _ M2 => w M2 12 [(0, .ref t), (1, .int x1_), (2, .int x2_)] []) (fun _ M2 hf k => h.callSN (As := [.ref (t + 27), .int (M.1 t 5), .int x1_]) (rest := []) (c_X10_put hW (hW.clo 29 h0 rfl) hf) lm_X10_put ls_m_X10_put 13 rfl rfl rfl (Nat.le_of_ble_eq_true rfl) (by decide) dX8_keepNote_9 rfl k) (fun _ M2 => ?_)
  refine E.m (h.aload_n 0 dX8_keepNote_12 rfl) ?_
  refine E.m (h.get h0 lf_RX8_31 dX8_keepNote_13 fv_8_7) ?_
  refine E.m (h.aload_n 0 dX8_keepNote_16 rfl) ?_
  refine E.m (h.get h0 lf_RX8_45 dX8_keepNote_17 fv_8_5) ?_
  refine E.m (h.iload_n 2 dX8_keepNote_20 rfl) ?_
  refine E.bnd (fun _ M4 => w M4 24 [(0, .ref t), (1, .int x1_), (2, .int x2_)] []) (fun _ M4 hf k => h.callSN (As := [.ref (t + 28), .int (M2.1 t 5), .int x2_]) (rest := []) (c_X10_put hW (hW.clo 30 h0 rfl) hf) lm_X10_put ls_m_X10_put 13 rfl rfl rfl (Nat.le_of_ble_eq_true rfl) (by decide) dX8_keepNote_21 rfl k) (fun _ M4 => ?_)
  refine E.m (h.aload_n 0 dX8_keepNote_24 rfl) ?_
  refine E.m (h.dup dX8_keepNote_25 rfl) ?_
  refine E.m (h.get h0 lf_RX8_45 dX8_keepNote_26 fv_8_5) ?_
  refine E.m (h.iconst (v := (1 : Int32)) dX8_keepNote_29 (by decide)) ?_
  refine E.m (h.iadd dX8_keepNote_30) ?_
  refine E.m (h.puti h0 lp_RX8_45 rfl dX8_keepNote_31) ?_
  refine E.nmM (fun M5 => ?_)
  refine E.m (h.aload_n 0 dX8_keepNote_34 rfl) ?_
  refine E.m (h.get h0 lf_RX8_45 dX8_keepNote_35 fv_8_5) ?_
  exact E.some (ret_i hr rfl dX8_keepNote_38)
