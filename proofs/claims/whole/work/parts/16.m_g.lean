theorem fv_11_33 {M : Mem} {a : Nat} : fvl M a 11 33 = .ref (a + 15) := rfl
theorem fv_11_34 {M : Mem} {a : Nat} : fvl M a 11 34 = .ref (a + 16) := rfl
theorem fv_11_35 {M : Mem} {a : Nat} : fvl M a 11 35 = .ref (a + 17) := rfl
theorem fv_11_36 {M : Mem} {a : Nat} : fvl M a 11 36 = .int (M.1 a 36) := rfl
theorem fv_11_37 {M : Mem} {a : Nat} : fvl M a 11 37 = .int (M.1 a 37) := rfl
theorem fv_11_38 {M : Mem} {a : Nat} : fvl M a 11 38 = .ref (a + 18) := rfl
theorem fv_11_39 {M : Mem} {a : Nat} : fvl M a 11 39 = .ref (a + 19) := rfl
theorem fv_11_41 {M : Mem} {a : Nat} : fvl M a 11 41 = .ref (a + 21) := rfl
theorem fv_11_42 {M : Mem} {a : Nat} : fvl M a 11 42 = .int (M.1 a 42) := rfl
theorem fv_11_40 {M : Mem} {a : Nat} : fvl M a 11 40 = .ref (a + 20) := rfl
theorem fv_11_43 {M : Mem} {a : Nat} : fvl M a 11 43 = .int (M.1 a 43) := rfl
theorem fv_11_47 {M : Mem} {a : Nat} : fvl M a 11 47 = .ref (a + 22) := rfl
theorem fv_11_48 {M : Mem} {a : Nat} : fvl M a 11 48 = .ref (a + 23) := rfl
theorem fv_11_49 {M : Mem} {a : Nat} : fvl M a 11 49 = .ref (a + 24) := rfl
theorem fv_11_50 {M : Mem} {a : Nat} : fvl M a 11 50 = .ref (a + 25) := rfl
theorem fv_11_51 {M : Mem} {a : Nat} : fvl M a 11 51 = .ref (a + 26) := rfl
theorem fv_11_44 {M : Mem} {a : Nat} : fvl M a 11 44 = .int (M.1 a 44) := rfl
theorem fv_11_45 {M : Mem} {a : Nat} : fvl M a 11 45 = .int (M.1 a 45) := rfl
theorem fv_11_46 {M : Mem} {a : Nat} : fvl M a 11 46 = .int (M.1 a 46) := rfl
theorem lm_X11_rangeOf : lkM yX11_rangeOf cX11_rangeOf 6 (some .int) 2 := ⟨gin 1785 (by decide +kernel) rfl, gin 102 (by decide +kernel) rfl, by decide +kernel⟩
theorem lv_m_X11_rangeOf : Cond.instanceMethod yX11_rangeOf ∈ gw ∧ Cond.selects (yX11_rangeOf).cls yX11_rangeOf yX11_rangeOf ∈ gw := ⟨gin 1784 (by decide +kernel) rfl, gin 61 (by decide +kernel) rfl⟩
theorem ll_RX11_376 : Cond.methodLink RX11 376 yX11_rangeOf ∈ gw := gin 1782 (by decide +kernel) rfl
theorem lf_RX11_85 : FL RX11 85 11 33 := ⟨_, _, _, rfl, rfl, by decide, gin 1460 (by decide +kernel) rfl⟩
theorem lj_RX11_379 : Jvm.Cond.constantLong RX11 379 (50 : Int64) ∈ gw := gin 1792 (by decide +kernel) rfl
theorem lm_X11_refuse : lkM yX11_refuse cX11_refuse 2 (some .int) 1 := ⟨gin 1796 (by decide +kernel) rfl, gin 102 (by decide +kernel) rfl, by decide +kernel⟩
theorem lv_m_X11_refuse : Cond.instanceMethod yX11_refuse ∈ gw ∧ Cond.selects (yX11_refuse).cls yX11_refuse yX11_refuse ∈ gw := ⟨gin 1795 (by decide +kernel) rfl, gin 62 (by decide +kernel) rfl⟩
theorem ll_RX11_381 : Cond.methodLink RX11 381 yX11_refuse ∈ gw := gin 1793 (by decide +kernel) rfl
theorem lm_X11_goOn : lkM yX11_goOn cX11_goOn 3 none 1 := ⟨gin 1804 (by decide +kernel) rfl, gin 102 (by decide +kernel) rfl, by decide +kernel⟩
theorem lv_m_X11_goOn : Cond.instanceMethod yX11_goOn ∈ gw ∧ Cond.selects (yX11_goOn).cls yX11_goOn yX11_goOn ∈ gw := ⟨gin 1803 (by decide +kernel) rfl, gin 64 (by decide +kernel) rfl⟩
theorem ll_RX11_387 : Cond.methodLink RX11 387 yX11_goOn ∈ gw := gin 1801 (by decide +kernel) rfl
theorem lm_X11_keep : lkM yX11_keep cX11_keep 2 none 0 := ⟨gin 1800 (by decide +kernel) rfl, gin 102 (by decide +kernel) rfl, by decide +kernel⟩
theorem lv_m_X11_keep : Cond.instanceMethod yX11_keep ∈ gw ∧ Cond.selects (yX11_keep).cls yX11_keep yX11_keep ∈ gw := ⟨gin 1799 (by decide +kernel) rfl, gin 63 (by decide +kernel) rfl⟩
theorem ll_RX11_384 : Cond.methodLink RX11 384 yX11_keep ∈ gw := gin 1797 (by decide +kernel) rfl
theorem lm_X11_turnTo : lkM yX11_turnTo cX11_turnTo 7 (some .int) 5 := ⟨gin 1870 (by decide +kernel) rfl, gin 102 (by decide +kernel) rfl, by decide +kernel⟩
theorem lv_m_X11_turnTo : Cond.instanceMethod yX11_turnTo ∈ gw ∧ Cond.selects (yX11_turnTo).cls yX11_turnTo yX11_turnTo ∈ gw := ⟨gin 1869 (by decide +kernel) rfl, gin 78 (by decide +kernel) rfl⟩
theorem ll_RX11_390 : Cond.methodLink RX11 390 yX11_turnTo ∈ gw := gin 1867 (by decide +kernel) rfl
theorem lf_RX11_88 : FL RX11 88 11 34 := ⟨_, _, _, rfl, rfl, by decide, gin 1461 (by decide +kernel) rfl⟩
theorem lm_X11_copyTo : lkM yX11_copyTo cX11_copyTo 3 none 2 := ⟨gin 1895 (by decide +kernel) rfl, gin 102 (by decide +kernel) rfl, by decide +kernel⟩
theorem ls_m_X11_copyTo : Cond.static yX11_copyTo ∈ gw := gin 1894 (by decide +kernel) rfl
theorem ll_RX11_394 : Cond.methodLink RX11 394 yX11_copyTo ∈ gw := gin 1893 (by decide +kernel) rfl
theorem lj_RX11_398 : Jvm.Cond.constantLong RX11 398 (5 : Int64) ∈ gw := gin 1887 (by decide +kernel) rfl
theorem lj_RX11_400 : Jvm.Cond.constantLong RX11 400 (400 : Int64) ∈ gw := gin 1888 (by decide +kernel) rfl
theorem lm_X11_back : lkM yX11_back cX11_back 2 (some .int) 1 := ⟨gin 1899 (by decide +kernel) rfl, gin 102 (by decide +kernel) rfl, by decide +kernel⟩
theorem lv_m_X11_back : Cond.instanceMethod yX11_back ∈ gw ∧ Cond.selects (yX11_back).cls yX11_back yX11_back ∈ gw := ⟨gin 1898 (by decide +kernel) rfl, gin 80 (by decide +kernel) rfl⟩
theorem ll_RX11_405 : Cond.methodLink RX11 405 yX11_back ∈ gw := gin 1896 (by decide +kernel) rfl
theorem lm_X11_rememberNow : lkM yX11_rememberNow cX11_rememberNow 1 none 0 := ⟨gin 1892 (by decide +kernel) rfl, gin 102 (by decide +kernel) rfl, by decide +kernel⟩
theorem lv_m_X11_rememberNow : Cond.instanceMethod yX11_rememberNow ∈ gw ∧ Cond.selects (yX11_rememberNow).cls yX11_rememberNow yX11_rememberNow ∈ gw := ⟨gin 1891 (by decide +kernel) rfl, gin 79 (by decide +kernel) rfl⟩
theorem ll_RX11_402 : Cond.methodLink RX11 402 yX11_rememberNow ∈ gw := gin 1889 (by decide +kernel) rfl
theorem lj_RX11_408 : Jvm.Cond.constantLong RX11 408 (3 : Int64) ∈ gw := gin 1904 (by decide +kernel) rfl
theorem lm_X11_isOnce : lkM yX11_isOnce cX11_isOnce 2 (some .boolean) 1 := ⟨gin 1908 (by decide +kernel) rfl, gin 102 (by decide +kernel) rfl, by decide +kernel⟩
theorem lv_m_X11_isOnce : Cond.instanceMethod yX11_isOnce ∈ gw ∧ Cond.selects (yX11_isOnce).cls yX11_isOnce yX11_isOnce ∈ gw := ⟨gin 1907 (by decide +kernel) rfl, gin 81 (by decide +kernel) rfl⟩
theorem ll_RX11_410 : Cond.methodLink RX11 410 yX11_isOnce ∈ gw := gin 1905 (by decide +kernel) rfl
theorem ll_RX11_413 : Cond.methodLink RX11 413 yJ9_abs_0f7a4 ∈ gw := gin 1917 (by decide +kernel) rfl
theorem lf_RX11_91 : FL RX11 91 11 35 := ⟨_, _, _, rfl, rfl, by decide, gin 1462 (by decide +kernel) rfl⟩
theorem lm_X11_isNear : lkM yX11_isNear cX11_isNear 1 (some .boolean) 0 := ⟨gin 1916 (by decide +kernel) rfl, gin 102 (by decide +kernel) rfl, by decide +kernel⟩
theorem lv_m_X11_isNear : Cond.instanceMethod yX11_isNear ∈ gw ∧ Cond.selects (yX11_isNear).cls yX11_isNear yX11_isNear ∈ gw := ⟨gin 1915 (by decide +kernel) rfl, gin 82 (by decide +kernel) rfl⟩
theorem ll_RX11_416 : Cond.methodLink RX11 416 yX11_isNear ∈ gw := gin 1913 (by decide +kernel) rfl
theorem lf_RX11_419 : FL RX11 419 11 36 := ⟨_, _, _, rfl, rfl, by decide, gin 1463 (by decide +kernel) rfl⟩
theorem lp_RX11_419 : FP RX11 419 11 36 .int := ⟨_, _, _, rfl, rfl, by decide, gin 1463 (by decide +kernel) rfl, rfl, by decide +kernel⟩
theorem lp_RX11_422 : FP RX11 422 11 37 .int := ⟨_, _, _, rfl, rfl, by decide, gin 1464 (by decide +kernel) rfl, rfl, by decide +kernel⟩
theorem lf_RX11_422 : FL RX11 422 11 37 := ⟨_, _, _, rfl, rfl, by decide, gin 1464 (by decide +kernel) rfl⟩
theorem lm_X11_tryBest : lkM yX11_tryBest cX11_tryBest 3 none 2 := ⟨gin 1925 (by decide +kernel) rfl, gin 102 (by decide +kernel) rfl, by decide +kernel⟩
theorem lv_m_X11_tryBest : Cond.instanceMethod yX11_tryBest ∈ gw ∧ Cond.selects (yX11_tryBest).cls yX11_tryBest yX11_tryBest ∈ gw := ⟨gin 1924 (by decide +kernel) rfl, gin 83 (by decide +kernel) rfl⟩
theorem ll_RX11_425 : Cond.methodLink RX11 425 yX11_tryBest ∈ gw := gin 1922 (by decide +kernel) rfl
theorem lm_X11_farOff : lkM yX11_farOff cX11_farOff 4 (some .int) 1 := ⟨gin 1933 (by decide +kernel) rfl, gin 102 (by decide +kernel) rfl, by decide +kernel⟩
theorem lv_m_X11_farOff : Cond.instanceMethod yX11_farOff ∈ gw ∧ Cond.selects (yX11_farOff).cls yX11_farOff yX11_farOff ∈ gw := ⟨gin 1932 (by decide +kernel) rfl, gin 84 (by decide +kernel) rfl⟩
theorem ll_RX11_428 : Cond.methodLink RX11 428 yX11_farOff ∈ gw := gin 1930 (by decide +kernel) rfl
theorem lj_RX11_431 : Jvm.Cond.constantLong RX11 431 (60 : Int64) ∈ gw := gin 1938 (by decide +kernel) rfl
theorem lj_RX11_433 : Jvm.Cond.constantLong RX11 433 (999 : Int64) ∈ gw := gin 1939 (by decide +kernel) rfl
theorem lf_RX11_94 : FL RX11 94 11 38 := ⟨_, _, _, rfl, rfl, by decide, gin 1465 (by decide +kernel) rfl⟩
theorem lf_RX11_97 : FL RX11 97 11 39 := ⟨_, _, _, rfl, rfl, by decide, gin 1466 (by decide +kernel) rfl⟩
theorem lf_RX11_103 : FL RX11 103 11 41 := ⟨_, _, _, rfl, rfl, by decide, gin 1468 (by decide +kernel) rfl⟩
theorem lp_RX11_435 : FP RX11 435 11 42 .int := ⟨_, _, _, rfl, rfl, by decide, gin 1469 (by decide +kernel) rfl, rfl, by decide +kernel⟩
theorem lf_RX11_435 : FL RX11 435 11 42 := ⟨_, _, _, rfl, rfl, by decide, gin 1469 (by decide +kernel) rfl⟩
theorem lf_RX11_100 : FL RX11 100 11 40 := ⟨_, _, _, rfl, rfl, by decide, gin 1467 (by decide +kernel) rfl⟩
theorem lm_X11_isAsNoted : lkM yX11_isAsNoted cX11_isAsNoted 6 (some .boolean) 1 := ⟨gin 1947 (by decide +kernel) rfl, gin 102 (by decide +kernel) rfl, by decide +kernel⟩
theorem lv_m_X11_isAsNoted : Cond.instanceMethod yX11_isAsNoted ∈ gw ∧ Cond.selects (yX11_isAsNoted).cls yX11_isAsNoted yX11_isAsNoted ∈ gw := ⟨gin 1946 (by decide +kernel) rfl, gin 85 (by decide +kernel) rfl⟩
theorem ll_RX11_438 : Cond.methodLink RX11 438 yX11_isAsNoted ∈ gw := gin 1944 (by decide +kernel) rfl
theorem lm_X11_tellFits : lkM yX11_tellFits cX11_tellFits 3 none 0 := ⟨gin 1951 (by decide +kernel) rfl, gin 102 (by decide +kernel) rfl, by decide +kernel⟩
theorem lv_m_X11_tellFits : Cond.instanceMethod yX11_tellFits ∈ gw ∧ Cond.selects (yX11_tellFits).cls yX11_tellFits yX11_tellFits ∈ gw := ⟨gin 1950 (by decide +kernel) rfl, gin 86 (by decide +kernel) rfl⟩
theorem ll_RX11_441 : Cond.methodLink RX11 441 yX11_tellFits ∈ gw := gin 1948 (by decide +kernel) rfl
theorem lm_X11_unlikeAt : lkM yX11_unlikeAt cX11_unlikeAt 6 (some .int) 1 := ⟨gin 1959 (by decide +kernel) rfl, gin 102 (by decide +kernel) rfl, by decide +kernel⟩
theorem lv_m_X11_unlikeAt : Cond.instanceMethod yX11_unlikeAt ∈ gw ∧ Cond.selects (yX11_unlikeAt).cls yX11_unlikeAt yX11_unlikeAt ∈ gw := ⟨gin 1958 (by decide +kernel) rfl, gin 87 (by decide +kernel) rfl⟩
theorem ll_RX11_444 : Cond.methodLink RX11 444 yX11_unlikeAt ∈ gw := gin 1956 (by decide +kernel) rfl
theorem lj_RX11_447 : Jvm.Cond.constantLong RX11 447 (10 : Int64) ∈ gw := gin 1968 (by decide +kernel) rfl
theorem lp_RX11_301 : FP RX11 301 11 30 .int := ⟨_, _, _, rfl, rfl, by decide, gin 1457 (by decide +kernel) rfl, rfl, by decide +kernel⟩
theorem lf_RX11_449 : FL RX11 449 11 43 := ⟨_, _, _, rfl, rfl, by decide, gin 1470 (by decide +kernel) rfl⟩
theorem li_RX11_452 : Jvm.Cond.constant RX11 452 (1103515245 : Int32) ∈ gw := gin 1977 (by decide +kernel) rfl
theorem lp_RX11_449 : FP RX11 449 11 43 .int := ⟨_, _, _, rfl, rfl, by decide, gin 1470 (by decide +kernel) rfl, rfl, by decide +kernel⟩
theorem lm_X11_drawOf : lkM yX11_drawOf cX11_drawOf 2 (some .int) 1 := ⟨gin 1976 (by decide +kernel) rfl, gin 102 (by decide +kernel) rfl, by decide +kernel⟩
theorem lv_m_X11_drawOf : Cond.instanceMethod yX11_drawOf ∈ gw ∧ Cond.selects (yX11_drawOf).cls yX11_drawOf yX11_drawOf ∈ gw := ⟨gin 1975 (by decide +kernel) rfl, gin 88 (by decide +kernel) rfl⟩
theorem ll_RX11_453 : Cond.methodLink RX11 453 yX11_drawOf ∈ gw := gin 1973 (by decide +kernel) rfl
theorem lp_RX11_456 : FP RX11 456 11 45 .int := ⟨_, _, _, rfl, rfl, by decide, gin 1472 (by decide +kernel) rfl, rfl, by decide +kernel⟩
theorem lp_RX11_459 : FP RX11 459 11 46 .int := ⟨_, _, _, rfl, rfl, by decide, gin 1473 (by decide +kernel) rfl, rfl, by decide +kernel⟩
theorem lf_RX11_106 : FL RX11 106 11 47 := ⟨_, _, _, rfl, rfl, by decide, gin 1474 (by decide +kernel) rfl⟩
theorem lf_RX11_109 : FL RX11 109 11 48 := ⟨_, _, _, rfl, rfl, by decide, gin 1475 (by decide +kernel) rfl⟩
theorem lf_RX11_112 : FL RX11 112 11 49 := ⟨_, _, _, rfl, rfl, by decide, gin 1476 (by decide +kernel) rfl⟩
theorem lf_RX11_115 : FL RX11 115 11 50 := ⟨_, _, _, rfl, rfl, by decide, gin 1477 (by decide +kernel) rfl⟩
theorem lf_RX11_118 : FL RX11 118 11 51 := ⟨_, _, _, rfl, rfl, by decide, gin 1478 (by decide +kernel) rfl⟩
theorem lf_RX11_284 : FL RX11 284 11 44 := ⟨_, _, _, rfl, rfl, by decide, gin 1471 (by decide +kernel) rfl⟩
theorem lf_RX11_456 : FL RX11 456 11 45 := ⟨_, _, _, rfl, rfl, by decide, gin 1472 (by decide +kernel) rfl⟩
theorem lf_RX11_459 : FL RX11 459 11 46 := ⟨_, _, _, rfl, rfl, by decide, gin 1473 (by decide +kernel) rfl⟩
def l_X11_wander_48 (t : Nat) (u5 : Int32) (u7 : Int32) (k9 : Int32) (k10 : Int32) (M11 : Mem) : Option ((Int32 × Int32 × Mem) ⊕ (Int32 × Mem)) :=
  if u5 < (k10 + u7) then (some (.inr (k9, M11))) else (bd (f_X11_rangeOf t k10 u7 M11) (fun u12 M13 => bd (f_J9_max_7cf53 k9 u12 M13) (fun u14 M15 => nm (k10 + (1 : Int32)) (fun y16 => some (.inl (u14, y16, M15))))))
def f_X11_wander (t : Nat) (x1_ : Int32) (M : Mem) : Option (Int32 × Mem) :=
  bd (f_X11_ready t M) (fun _ M2 => bd (f_X11_isIn x1_.toInt64 (2 : Int64) (128 : Int64) M2) (fun u3 M4 => if u3 = 0 then (bd (f_X11_fail t (1 : Int32) M4) (fun u17 M18 => some (u17, M18))) else (bd (f_X11_samplesKept t M4) (fun u5 M6 => if (2 : Int32) ≤ u5 then (bd (f_J9_min_7cf53 u5 x1_ M6) (fun u7 M8 => lop3 FU (l_X11_wander_48 t u5 u7) (0 : Int32) (0 : Int32) M8)) else (some ((-1 : Int32), M6))))))
set_option maxRecDepth 20000 in
theorem c_X11_wander {G : Ctx} (hW : WFG G) {t : Nat} {x1_ : Int32} {M M' : Mem} {r : Int32} (h0 : hs G t (0, 11)) (hf : f_X11_wander t x1_ M = some (r, M')) : Ct G yX11_wander cX11_wander 6 (some .int) 4 87 [.ref t, .int x1_] M (some (.int r)) M' := by
  refine ct_i hW (by decide +kernel) (Nat.le_of_ble_eq_true rfl) (fun w h hr => ?_)
  have h : Rb G cX11_wander RX11 6 4 87 w := h
  refine (?_ : E (fun q => q = (r, M')) (f_X11_wander t x1_ M) (w M 0 [(0, .ref t), (1, .int x1_)] [])) _ hf rfl
  unfold f_X11_wander
  refine E.m (h.aload_n 0 dX11_wander_0 rfl) ?_
  refine E.bnd (fun _ M2 => w M2 4 [(0, .ref t), (1, .int x1_)] []) (fun _ M2 hf k => h.callV (As := []) (rest := []) (c_X11_ready hW h0 hf) lm_X11_ready lv_m_X11_ready ll_RX11_247 h0 lc_11 rfl rfl (Nat.le_of_ble_eq_true rfl) (by decide) dX11_wander_1 rfl k) (fun _ M2 => ?_)
  refine E.m (h.iload_n 1 dX11_wander_4 rfl) ?_
  refine E.m (h.i2l dX11_wander_5) ?_
  refine E.m (h.ldc2 lj_RX11_362 dX11_wander_6) ?_
  refine E.m (h.ldc2 lj_RX11_369 dX11_wander_9) ?_
  refine E.bnd (fun u3 M4 => w M4 15 [(0, .ref t), (1, .int x1_)] [.int u3]) (fun u3 M4 hf k => h.callS (As := [.long x1_.toInt64, .long (2 : Int64), .long (128 : Int64)]) (rest := []) (c_X11_isIn hW hf) lm_X11_isIn ls_m_X11_isIn ll_RX11_358 rfl rfl (Nat.le_of_ble_eq_true rfl) (by decide) dX11_wander_12 rfl k) (fun u3 M4 => ?_)
  refine E.br (fun k1 k2 => h.if_ne (tgt := 24) dX11_wander_15 (by decide) k2 k1) ?_ ?_
  · refine E.m (h.aload_n 0 dX11_wander_18 rfl) ?_
    refine E.m (h.iconst (v := (1 : Int32)) dX11_wander_19 (by decide)) ?_
    refine E.bnd (fun u17 M18 => w M18 23 [(0, .ref t), (1, .int x1_)] [.int u17]) (fun u17 M18 hf k => h.callV (As := [.int (1 : Int32)]) (rest := []) (c_X11_fail hW h0 hf) lm_X11_fail lv_m_X11_fail ll_RX11_250 h0 lc_11 rfl rfl (Nat.le_of_ble_eq_true rfl) (by decide) dX11_wander_20 rfl k) (fun u17 M18 => ?_)
    exact E.some (ret_i hr rfl dX11_wander_23)
  · refine E.m (h.aload_n 0 dX11_wander_24 rfl) ?_
    refine E.bnd (fun u5 M6 => w M6 28 [(0, .ref t), (1, .int x1_)] [.int u5]) (fun u5 M6 hf k => h.callV (As := []) (rest := []) (c_X11_samplesKept hW h0 hf) lm_X11_samplesKept lv_m_X11_samplesKept ll_RX11_355 h0 lc_11 rfl rfl (Nat.le_of_ble_eq_true rfl) (by decide) dX11_wander_25 rfl k) (fun u5 M6 => ?_)
    refine E.m (h.istore_n dX11_wander_28 (by decide) rfl) ?_
    refine E.m (h.iload_n 0 dX11_wander_29 rfl) ?_
    refine E.m (h.iconst (v := (2 : Int32)) dX11_wander_30 (by decide)) ?_
    refine E.br (fun k1 k2 => h.icmp_ge (tgt := 36) dX11_wander_31 (by decide) k1 k2) ?_ ?_
    · refine E.m (h.iload_n 0 dX11_wander_36 rfl) ?_
      refine E.m (h.iload_n 2 dX11_wander_37 rfl) ?_
      refine E.bnd (fun u7 M8 => w M8 41 [(2, .int u5), (0, .ref t), (1, .int x1_)] [.int u7]) (fun u7 M8 hf k => h.callS (As := [.int u5, .int x1_]) (rest := []) (c_J9_min_7cf53 hW hf) lm_J9_min_7cf53 ls_m_J9_min_7cf53 ll_RX11_124 rfl rfl (Nat.le_of_ble_eq_true rfl) (by decide) dX11_wander_38 rfl k) (fun u7 M8 => ?_)
      refine E.m (h.istore_n dX11_wander_41 (by decide) rfl) ?_
      refine E.m (h.iconst (v := (0 : Int32)) dX11_wander_42 (by decide)) ?_
      refine E.m (h.istore dX11_wander_43 (by decide) rfl) ?_
      refine E.m (h.iconst (v := (0 : Int32)) dX11_wander_45 (by decide)) ?_
      refine E.m (h.istore dX11_wander_46 (by decide) rfl) ?_
      refine E.m (h.sub [4, 5, 3, 2, 1, 0] rfl) ?_
      refine E.loop3 (fun k9 k10 M11 => w M11 48 [(0, .ref t), (1, .int x1_), (2, .int u5), (3, .int u7), (4, .int k9), (5, .int k10)] []) (fun k9 k10 M11 => ?_) _ _ _ _
      unfold l_X11_wander_48
      refine E.m (h.iload 5 dX11_wander_48 rfl) ?_
      refine E.m (h.iload_n 3 dX11_wander_50 rfl) ?_
      refine E.m (h.iadd dX11_wander_51) ?_
      refine E.m (h.iload_n 2 dX11_wander_52 rfl) ?_
      refine E.br (fun k1 k2 => h.icmp_gt (tgt := 76) dX11_wander_53 (by decide) k1 k2) ?_ ?_
      · refine E.m (h.iload 4 dX11_wander_76 rfl) ?_
        exact E.some (ret_i hr rfl dX11_wander_78)
      · refine E.m (h.iload 4 dX11_wander_56 rfl) ?_
        refine E.m (h.aload_n 0 dX11_wander_58 rfl) ?_
        refine E.m (h.iload 5 dX11_wander_59 rfl) ?_
        refine E.m (h.iload_n 3 dX11_wander_61 rfl) ?_
        refine E.bnd (fun u12 M13 => w M13 65 [(0, .ref t), (1, .int x1_), (2, .int u5), (3, .int u7), (4, .int k9), (5, .int k10)] [.int u12, .int k9]) (fun u12 M13 hf k => h.callV (As := [.int k10, .int u7]) (rest := [.int k9]) (c_X11_rangeOf hW h0 hf) lm_X11_rangeOf lv_m_X11_rangeOf ll_RX11_376 h0 lc_11 rfl rfl (Nat.le_of_ble_eq_true rfl) (by decide) dX11_wander_62 rfl k) (fun u12 M13 => ?_)
        refine E.bnd (fun u14 M15 => w M15 68 [(0, .ref t), (1, .int x1_), (2, .int u5), (3, .int u7), (4, .int k9), (5, .int k10)] [.int u14]) (fun u14 M15 hf k => h.callS (As := [.int k9, .int u12]) (rest := []) (c_J9_max_7cf53 hW hf) lm_J9_max_7cf53 ls_m_J9_max_7cf53 ll_RX11_130 rfl rfl (Nat.le_of_ble_eq_true rfl) (by decide) dX11_wander_65 rfl k) (fun u14 M15 => ?_)
        refine E.m (h.istore dX11_wander_68 (by decide) rfl) ?_
        refine E.m (h.iinc (v := (1 : Int32)) 5 dX11_wander_70 rfl (by decide) (by decide) rfl) ?_
        refine E.nmL (fun y16 => ?_)
        refine E.m (h.goto (tgt := 48) dX11_wander_73 (by decide)) ?_
        refine E.m (h.sub [2, 3, 4, 5, 1, 0] rfl) ?_
        exact E.some (fun q => q)
    · refine E.m (h.iconst (v := (-1 : Int32)) dX11_wander_34 (by decide)) ?_
      exact E.some (ret_i hr rfl dX11_wander_35)
def f_X11_refuse (t : Nat) (x1_ : Int32) (M : Mem) : Option (Int32 × Mem) :=
  gdi x1_ 3 (gdi x1_ 3 (nm (wi M (t + 7) x1_.toNatClampNeg ((M.1 (t + 7) x1_.toNatClampNeg) + (1 : Int32))) (fun M1 => some ((-1 : Int32), M1))))
set_option maxRecDepth 20000 in
theorem c_X11_refuse {G : Ctx} (hW : WFG G) {t : Nat} {x1_ : Int32} {M M' : Mem} {r : Int32} (h0 : hs G t (0, 11)) (hf : f_X11_refuse t x1_ M = some (r, M')) : Ct G yX11_refuse cX11_refuse 2 (some .int) 0 0 [.ref t, .int x1_] M (some (.int r)) M' := by
  refine ct_i hW (by decide +kernel) (Nat.le_of_ble_eq_true rfl) (fun w h hr => ?_)
  have h : Rb G cX11_refuse RX11 2 0 0 w := h
  refine (?_ : E (fun q => q = (r, M')) (f_X11_refuse t x1_ M) (w M 0 [(0, .ref t), (1, .int x1_)] [])) _ hf rfl
  unfold f_X11_refuse
  refine E.m (h.aload_n 0 dX11_refuse_0 rfl) ?_
  refine E.m (h.get h0 lf_RX11_56 dX11_refuse_1 fv_11_7) ?_
  refine E.m (h.iload_n 1 dX11_refuse_4 rfl) ?_
  refine E.m (h.dup2 dX11_refuse_5 rfl rfl) ?_
  refine E.gi (fun hi k => h.iald (hW.clo 46 h0 rfl) hi dX11_refuse_6 k) ?_
  refine E.m (h.iconst (v := (1 : Int32)) dX11_refuse_7 (by decide)) ?_
  refine E.m (h.iadd dX11_refuse_8) ?_
  refine E.gi (fun hi k => h.iast (hW.clo 46 h0 rfl) hi dX11_refuse_9 k) ?_
  refine E.nmM (fun M1 => ?_)
  refine E.m (h.iconst (v := (-1 : Int32)) dX11_refuse_10 (by decide)) ?_
  exact E.some (ret_i hr rfl dX11_refuse_11)
def l_X11_copyTo_2 (r1_ : Nat) (n1_ : Nat) (r2_ : Nat) (n2_ : Nat) (k1 : Int32) (M2 : Mem) : Option ((Int32 × Mem) ⊕ (Unit × Mem)) :=
  if (Int32.ofNat n1_) ≤ k1 then (some (.inr ((), M2))) else (gdi k1 n2_ (gdi k1 n1_ (nm (wi M2 r1_ k1.toNatClampNeg (M2.1 r2_ k1.toNatClampNeg)) (fun M3 => nm (k1 + (1 : Int32)) (fun y4 => some (.inl (y4, M3)))))))
def f_X11_copyTo (r1_ : Nat) (n1_ : Nat) (r2_ : Nat) (n2_ : Nat) (M : Mem) : Option (Unit × Mem) :=
  lop2 FU (l_X11_copyTo_2 r1_ n1_ r2_ n2_) (0 : Int32) M
set_option maxRecDepth 20000 in
theorem c_X11_copyTo {G : Ctx} (hW : WFG G) {r1_ : Nat} {n1_ : Nat} {r2_ : Nat} {n2_ : Nat} {M M' : Mem} (h1 : hs G r1_ (1, n1_)) (h2 : hs G r2_ (1, n2_)) (hf : f_X11_copyTo r1_ n1_ r2_ n2_ M = some ((), M')) : Ct G yX11_copyTo cX11_copyTo 3 none 0 0 [.ref r1_, .ref r2_] M none M' := by
  refine ct_v hW (by decide +kernel) (Nat.le_of_ble_eq_true rfl) (fun w h hr => ?_)
  have h : Rb G cX11_copyTo RX11 3 0 0 w := h
  refine (?_ : E (fun q => q = ((), M')) (f_X11_copyTo r1_ n1_ r2_ n2_ M) (w M 0 [(0, .ref r1_), (1, .ref r2_)] [])) _ hf rfl
  unfold f_X11_copyTo
  refine E.m (h.iconst (v := (0 : Int32)) dX11_copyTo_0 (by decide)) ?_
  refine E.m (h.istore_n dX11_copyTo_1 (by decide) rfl) ?_
  refine E.m (h.sub [1, 2, 0] rfl) ?_
  refine E.loop2 (fun k1 M2 => w M2 2 [(0, .ref r1_), (1, .ref r2_), (2, .int k1)] []) (fun k1 M2 => ?_) _ _ _
  unfold l_X11_copyTo_2
  refine E.m (h.iload_n 2 dX11_copyTo_2 rfl) ?_
  refine E.m (h.aload_n 0 dX11_copyTo_3 rfl) ?_
  refine E.m (h.alen (v := Int32.ofNat n1_) h1 rfl dX11_copyTo_4) ?_
  refine E.br (fun k1 k2 => h.icmp_ge (tgt := 20) dX11_copyTo_5 (by decide) k1 k2) ?_ ?_
  · exact E.some (ret_v hr dX11_copyTo_20)
  · refine E.m (h.aload_n 0 dX11_copyTo_8 rfl) ?_
    refine E.m (h.iload_n 2 dX11_copyTo_9 rfl) ?_
    refine E.m (h.aload_n 1 dX11_copyTo_10 rfl) ?_
    refine E.m (h.iload_n 2 dX11_copyTo_11 rfl) ?_
    refine E.gi (fun hi k => h.iald h2 hi dX11_copyTo_12 k) ?_
    refine E.gi (fun hi k => h.iast h1 hi dX11_copyTo_13 k) ?_
    refine E.nmM (fun M3 => ?_)
    refine E.m (h.iinc (v := (1 : Int32)) 2 dX11_copyTo_14 rfl (by decide) (by decide) rfl) ?_
    refine E.nmL (fun y4 => ?_)
    refine E.m (h.goto (tgt := 2) dX11_copyTo_17 (by decide)) ?_
    refine E.m (h.sub [1, 2, 0] rfl) ?_
    exact E.some (fun q => q)
def l_X11_keep_56 (t : Nat) (k2 : Int32) (M3 : Mem) : Option ((Int32 × Mem) ⊕ (Unit × Mem)) :=
  if (665 : Int32) ≤ k2 then (nm (wi M3 t 31 ((M3.1 t 31) + (1 : Int32))) (fun M4 => some (.inr ((), M4)))) else (gdi k2 665 (gdi (((665 : Int32) * (M3.1 t 31)) + k2) 26600 (nm (wi M3 (t + 15) (((665 : Int32) * (M3.1 t 31)) + k2).toNatClampNeg (M3.1 (t + 8) k2.toNatClampNeg)) (fun M5 => nm (k2 + (1 : Int32)) (fun y6 => some (.inl (y6, M5)))))))
def l_X11_keep_13 (t : Nat) (J54 : Mem → Option (Unit × Mem)) (k7 : Int32) (M8 : Mem) : Option ((Int32 × Mem) ⊕ (Unit × Mem)) :=
  if (26600 : Int32) ≤ k7 then (nm (wi M8 t 31 ((M8.1 t 31) - (1 : Int32))) (fun M9 => up (J54 M9))) else (gdi k7 26600 (gdi (k7 - (665 : Int32)) 26600 (nm (wi M8 (t + 15) (k7 - (665 : Int32)).toNatClampNeg (M8.1 (t + 15) k7.toNatClampNeg)) (fun M10 => nm (k7 + (1 : Int32)) (fun y11 => some (.inl (y11, M10)))))))
def f_X11_keep (t : Nat) (M : Mem) : Option (Unit × Mem) :=
  jn1 (fun M1 => lop2 FU (l_X11_keep_56 t) (0 : Int32) M1) (fun J54 => if (M.1 t 31) = (40 : Int32) then (lop2 FU (l_X11_keep_13 t J54) (665 : Int32) M) else (J54 M))
set_option maxRecDepth 20000 in
theorem c_X11_keep {G : Ctx} (hW : WFG G) {t : Nat} {M M' : Mem} (h0 : hs G t (0, 11)) (hf : f_X11_keep t M = some ((), M')) : Ct G yX11_keep cX11_keep 2 none 0 0 [.ref t] M none M' := by
  refine ct_v hW (by decide +kernel) (Nat.le_of_ble_eq_true rfl) (fun w h hr => ?_)
  have h : Rb G cX11_keep RX11 2 0 0 w := h
  refine (?_ : E (fun q => q = ((), M')) (f_X11_keep t M) (w M 0 [(0, .ref t)] [])) _ hf rfl
  unfold f_X11_keep
  refine E.m (h.aload_n 0 dX11_keep_0 rfl) ?_
  refine E.m (h.get h0 lf_RX11_278 dX11_keep_1 fv_11_31) ?_
  refine E.m (h.bipush (v := (40 : Int32)) dX11_keep_4 (by decide)) ?_
  refine E.join1 (fun M1 => w M1 54 [(0, .ref t)] []) (fun M1 => ?_) (fun J54 hJ54 => ?_)
  · refine E.m (h.iconst (v := (0 : Int32)) dX11_keep_54 (by decide)) ?_
    refine E.m (h.istore_n dX11_keep_55 (by decide) rfl) ?_
    refine E.m (h.sub [1, 0] rfl) ?_
    refine E.loop2 (fun k2 M3 => w M3 56 [(0, .ref t), (1, .int k2)] []) (fun k2 M3 => ?_) _ _ _
    unfold l_X11_keep_56
    refine E.m (h.iload_n 1 dX11_keep_56 rfl) ?_
    refine E.m (h.sipush (v := (665 : Int32)) dX11_keep_57 (by decide)) ?_
    refine E.br (fun k1 k2 => h.icmp_ge (tgt := 90) dX11_keep_60 (by decide) k1 k2) ?_ ?_
    · refine E.m (h.aload_n 0 dX11_keep_90 rfl) ?_
      refine E.m (h.dup dX11_keep_91 rfl) ?_
      refine E.m (h.get h0 lf_RX11_278 dX11_keep_92 fv_11_31) ?_
      refine E.m (h.iconst (v := (1 : Int32)) dX11_keep_95 (by decide)) ?_
      refine E.m (h.iadd dX11_keep_96) ?_
      refine E.m (h.puti h0 lp_RX11_278 rfl dX11_keep_97) ?_
      refine E.nmM (fun M4 => ?_)
      exact E.some (ret_v hr dX11_keep_100)
    · refine E.m (h.aload_n 0 dX11_keep_63 rfl) ?_
      refine E.m (h.get h0 lf_RX11_85 dX11_keep_64 fv_11_33) ?_
      refine E.m (h.sipush (v := (665 : Int32)) dX11_keep_67 (by decide)) ?_
      refine E.m (h.aload_n 0 dX11_keep_70 rfl) ?_
      refine E.m (h.get h0 lf_RX11_278 dX11_keep_71 fv_11_31) ?_
      refine E.m (h.imul dX11_keep_74) ?_
      refine E.m (h.iload_n 1 dX11_keep_75 rfl) ?_
      refine E.m (h.iadd dX11_keep_76) ?_
      refine E.m (h.aload_n 0 dX11_keep_77 rfl) ?_
      refine E.m (h.get h0 lf_RX11_59 dX11_keep_78 fv_11_8) ?_
      refine E.m (h.iload_n 1 dX11_keep_81 rfl) ?_
      refine E.gi (fun hi k => h.iald (hW.clo 47 h0 rfl) hi dX11_keep_82 k) ?_
      refine E.gi (fun hi k => h.iast (hW.clo 54 h0 rfl) hi dX11_keep_83 k) ?_
      refine E.nmM (fun M5 => ?_)
      refine E.m (h.iinc (v := (1 : Int32)) 1 dX11_keep_84 rfl (by decide) (by decide) rfl) ?_
      refine E.nmL (fun y6 => ?_)
      refine E.m (h.goto (tgt := 56) dX11_keep_87 (by decide)) ?_
      refine E.m (h.sub [1, 0] rfl) ?_
      exact E.some (fun q => q)
  refine E.br (fun k1 k2 => h.icmp_ne (tgt := 54) dX11_keep_6 (by decide) k2 k1) ?_ ?_
  · refine E.m (h.sipush (v := (665 : Int32)) dX11_keep_9 (by decide)) ?_
    refine E.m (h.istore_n dX11_keep_12 (by decide) rfl) ?_
    refine E.m (h.sub [1, 0] rfl) ?_
    refine E.loop2 (fun k7 M8 => w M8 13 [(0, .ref t), (1, .int k7)] []) (fun k7 M8 => ?_) _ _ _
    unfold l_X11_keep_13
    refine E.m (h.iload_n 1 dX11_keep_13 rfl) ?_
    refine E.m (h.aload_n 0 dX11_keep_14 rfl) ?_
    refine E.m (h.get h0 lf_RX11_85 dX11_keep_15 fv_11_33) ?_
    refine E.m (h.alen (v := (26600 : Int32)) (hW.clo 54 h0 rfl) (by decide) dX11_keep_18) ?_
    refine E.br (fun k1 k2 => h.icmp_ge (tgt := 44) dX11_keep_19 (by decide) k1 k2) ?_ ?_
    · refine E.m (h.aload_n 0 dX11_keep_44 rfl) ?_
      refine E.m (h.dup dX11_keep_45 rfl) ?_
      refine E.m (h.get h0 lf_RX11_278 dX11_keep_46 fv_11_31) ?_
      refine E.m (h.iconst (v := (1 : Int32)) dX11_keep_49 (by decide)) ?_
      refine E.m (h.isub dX11_keep_50) ?_
      refine E.m (h.puti h0 lp_RX11_278 rfl dX11_keep_51) ?_
      refine E.nmM (fun M9 => ?_)
      refine E.m (h.sub [0] rfl) ?_
      exact E.up (fun _ q => q) (hJ54 _)
    · refine E.m (h.aload_n 0 dX11_keep_22 rfl) ?_
      refine E.m (h.get h0 lf_RX11_85 dX11_keep_23 fv_11_33) ?_
      refine E.m (h.iload_n 1 dX11_keep_26 rfl) ?_
      refine E.m (h.sipush (v := (665 : Int32)) dX11_keep_27 (by decide)) ?_
      refine E.m (h.isub dX11_keep_30) ?_
      refine E.m (h.aload_n 0 dX11_keep_31 rfl) ?_
      refine E.m (h.get h0 lf_RX11_85 dX11_keep_32 fv_11_33) ?_
      refine E.m (h.iload_n 1 dX11_keep_35 rfl) ?_
      refine E.gi (fun hi k => h.iald (hW.clo 54 h0 rfl) hi dX11_keep_36 k) ?_
      refine E.gi (fun hi k => h.iast (hW.clo 54 h0 rfl) hi dX11_keep_37 k) ?_
      refine E.nmM (fun M10 => ?_)
      refine E.m (h.iinc (v := (1 : Int32)) 1 dX11_keep_38 rfl (by decide) (by decide) rfl) ?_
      refine E.nmL (fun y11 => ?_)
      refine E.m (h.goto (tgt := 13) dX11_keep_41 (by decide)) ?_
      refine E.m (h.sub [1, 0] rfl) ?_
      exact E.some (fun q => q)
  · exact hJ54 _
def f_X11_steps (t : Nat) (x1_ : Int32) (M : Mem) : Option (Int32 × Mem) :=
  bd (f_X11_ready t M) (fun _ M2 => bd (f_X11_isIn x1_.toInt64 (1 : Int64) (50 : Int64) M2) (fun u3 M4 => jn0 (fun _ => bd (f_X11_refuse t (1 : Int32) M4) (fun u5 M6 => some (u5, M6))) (fun J30 => if u3 = 0 then (J30 ()) else (if ((M4.1 (t + 8) 0) + x1_) ≤ (20000 : Int32) then (bd (f_X11_keep t M4) (fun _ M8 => bd (f_X11_goOn t x1_ M8) (fun _ M10 => some (M10.1 (t + 8) 0, M10)))) else (J30 ())))))
set_option maxRecDepth 20000 in
theorem c_X11_steps {G : Ctx} (hW : WFG G) {t : Nat} {x1_ : Int32} {M M' : Mem} {r : Int32} (h0 : hs G t (0, 11)) (hf : f_X11_steps t x1_ M = some (r, M')) : Ct G yX11_steps cX11_steps 2 (some .int) 8 175 [.ref t, .int x1_] M (some (.int r)) M' := by
  refine ct_i hW (by decide +kernel) (Nat.le_of_ble_eq_true rfl) (fun w h hr => ?_)
  have h : Rb G cX11_steps RX11 2 8 175 w := h
  refine (?_ : E (fun q => q = (r, M')) (f_X11_steps t x1_ M) (w M 0 [(0, .ref t), (1, .int x1_)] [])) _ hf rfl
  unfold f_X11_steps
  refine E.m (h.aload_n 0 dX11_steps_0 rfl) ?_
  refine E.bnd (fun _ M2 => w M2 4 [(0, .ref t), (1, .int x1_)] []) (fun _ M2 hf k => h.callV (As := []) (rest := []) (c_X11_ready hW h0 hf) lm_X11_ready lv_m_X11_ready ll_RX11_247 h0 lc_11 rfl rfl (Nat.le_of_ble_eq_true rfl) (by decide) dX11_steps_1 rfl k) (fun _ M2 => ?_)
  refine E.m (h.iload_n 1 dX11_steps_4 rfl) ?_
  refine E.m (h.i2l dX11_steps_5) ?_
  refine E.m (h.lconst (v := (1 : Int64)) dX11_steps_6 (by decide)) ?_
  refine E.m (h.ldc2 lj_RX11_379 dX11_steps_7) ?_
  refine E.bnd (fun u3 M4 => w M4 13 [(0, .ref t), (1, .int x1_)] [.int u3]) (fun u3 M4 hf k => h.callS (As := [.long x1_.toInt64, .long (1 : Int64), .long (50 : Int64)]) (rest := []) (c_X11_isIn hW hf) lm_X11_isIn ls_m_X11_isIn ll_RX11_358 rfl rfl (Nat.le_of_ble_eq_true rfl) (by decide) dX11_steps_10 rfl k) (fun u3 M4 => ?_)
  refine E.join0 (fun _ => w M4 30 [(0, .ref t), (1, .int x1_)] []) (fun _ => ?_) (fun J30 hJ30 => ?_)
  · refine E.m (h.aload_n 0 dX11_steps_30 rfl) ?_
    refine E.m (h.iconst (v := (1 : Int32)) dX11_steps_31 (by decide)) ?_
    refine E.bnd (fun u5 M6 => w M6 35 [(0, .ref t), (1, .int x1_)] [.int u5]) (fun u5 M6 hf k => h.callV (As := [.int (1 : Int32)]) (rest := []) (c_X11_refuse hW h0 hf) lm_X11_refuse lv_m_X11_refuse ll_RX11_381 h0 lc_11 rfl rfl (Nat.le_of_ble_eq_true rfl) (by decide) dX11_steps_32 rfl k) (fun u5 M6 => ?_)
    exact E.some (ret_i hr rfl dX11_steps_35)
  refine E.br (fun k1 k2 => h.if_eq (tgt := 30) dX11_steps_13 (by decide) k1 k2) ?_ ?_
  · exact hJ30 ()
  · refine E.m (h.aload_n 0 dX11_steps_16 rfl) ?_
    refine E.m (h.get h0 lf_RX11_59 dX11_steps_17 fv_11_8) ?_
    refine E.m (h.iconst (v := (0 : Int32)) dX11_steps_20 (by decide)) ?_
    refine E.m (h.ialdk (k := 0) (hW.clo 47 h0 rfl) (by decide) rfl dX11_steps_21) ?_
    refine E.m (h.iload_n 1 dX11_steps_22 rfl) ?_
    refine E.m (h.iadd dX11_steps_23) ?_
    refine E.m (h.sipush (v := (20000 : Int32)) dX11_steps_24 (by decide)) ?_
    refine E.br (fun k1 k2 => h.icmp_le (tgt := 36) dX11_steps_27 (by decide) k1 k2) ?_ ?_
    · refine E.m (h.aload_n 0 dX11_steps_36 rfl) ?_
      refine E.bnd (fun _ M8 => w M8 40 [(0, .ref t), (1, .int x1_)] []) (fun _ M8 hf k => h.callV (As := []) (rest := []) (c_X11_keep hW h0 hf) lm_X11_keep lv_m_X11_keep ll_RX11_384 h0 lc_11 rfl rfl (Nat.le_of_ble_eq_true rfl) (by decide) dX11_steps_37 rfl k) (fun _ M8 => ?_)
      refine E.m (h.aload_n 0 dX11_steps_40 rfl) ?_
      refine E.m (h.iload_n 1 dX11_steps_41 rfl) ?_
      refine E.bnd (fun _ M10 => w M10 45 [(0, .ref t), (1, .int x1_)] []) (fun _ M10 hf k => h.callV (As := [.int x1_]) (rest := []) (c_X11_goOn hW h0 hf) lm_X11_goOn lv_m_X11_goOn ll_RX11_387 h0 lc_11 rfl rfl (Nat.le_of_ble_eq_true rfl) (by decide) dX11_steps_42 rfl k) (fun _ M10 => ?_)
      refine E.m (h.aload_n 0 dX11_steps_45 rfl) ?_
      refine E.m (h.get h0 lf_RX11_59 dX11_steps_46 fv_11_8) ?_
      refine E.m (h.iconst (v := (0 : Int32)) dX11_steps_49 (by decide)) ?_
      refine E.m (h.ialdk (k := 0) (hW.clo 47 h0 rfl) (by decide) rfl dX11_steps_50) ?_
      exact E.some (ret_i hr rfl dX11_steps_51)
    · exact hJ30 ()
def f_X11_turnTo (t : Nat) (x1_ : Int32) (x2_ : Int32) (x3_ : Int32) (x4_ : Int32) (x5_ : Int32) (M : Mem) : Option (Int32 × Mem) :=
  gdi x1_ 665 (nm (M.1 (t + 8) x1_.toNatClampNeg) (fun y1 => bd (f_X11_isIn x2_.toInt64 x3_.toInt64 x4_.toInt64 M) (fun u2 M3 => jn0 (fun _ => bd (f_X11_refuse t (1 : Int32) M3) (fun u4 M5 => some (x5_, M5))) (fun J27 => if u2 = 0 then (J27 ()) else (if x2_ = y1 then (J27 ()) else (bd (f_X11_keep t M3) (fun _ M7 => gdi x1_ 665 (nm (wi M7 (t + 8) x1_.toNatClampNeg x2_) (fun M8 => some (y1, M8))))))))))
set_option maxRecDepth 20000 in
theorem c_X11_turnTo {G : Ctx} (hW : WFG G) {t : Nat} {x1_ : Int32} {x2_ : Int32} {x3_ : Int32} {x4_ : Int32} {x5_ : Int32} {M M' : Mem} {r : Int32} (h0 : hs G t (0, 11)) (hf : f_X11_turnTo t x1_ x2_ x3_ x4_ x5_ M = some (r, M')) : Ct G yX11_turnTo cX11_turnTo 7 (some .int) 1 25 [.ref t, .int x1_, .int x2_, .int x3_, .int x4_, .int x5_] M (some (.int r)) M' := by
  refine ct_i hW (by decide +kernel) (Nat.le_of_ble_eq_true rfl) (fun w h hr => ?_)
  have h : Rb G cX11_turnTo RX11 7 1 25 w := h
  refine (?_ : E (fun q => q = (r, M')) (f_X11_turnTo t x1_ x2_ x3_ x4_ x5_ M) (w M 0 [(0, .ref t), (1, .int x1_), (2, .int x2_), (3, .int x3_), (4, .int x4_), (5, .int x5_)] [])) _ hf rfl
  unfold f_X11_turnTo
  refine E.m (h.aload_n 0 dX11_turnTo_0 rfl) ?_
  refine E.m (h.get h0 lf_RX11_59 dX11_turnTo_1 fv_11_8) ?_
  refine E.m (h.iload_n 1 dX11_turnTo_4 rfl) ?_
  refine E.gi (fun hi k => h.iald (hW.clo 47 h0 rfl) hi dX11_turnTo_5 k) ?_
  refine E.m (h.istore dX11_turnTo_6 (by decide) rfl) ?_
  refine E.nmL (fun y1 => ?_)
  refine E.m (h.iload_n 3 dX11_turnTo_8 rfl) ?_
  refine E.m (h.i2l dX11_turnTo_9) ?_
  refine E.m (h.iload_n 4 dX11_turnTo_10 rfl) ?_
  refine E.m (h.i2l dX11_turnTo_11) ?_
  refine E.m (h.iload 5 dX11_turnTo_12 rfl) ?_
  refine E.m (h.i2l dX11_turnTo_14) ?_
  refine E.bnd (fun u2 M3 => w M3 18 [(6, .int y1), (0, .ref t), (1, .int x1_), (2, .int x2_), (3, .int x3_), (4, .int x4_), (5, .int x5_)] [.int u2]) (fun u2 M3 hf k => h.callS (As := [.long x2_.toInt64, .long x3_.toInt64, .long x4_.toInt64]) (rest := []) (c_X11_isIn hW hf) lm_X11_isIn ls_m_X11_isIn ll_RX11_358 rfl rfl (Nat.le_of_ble_eq_true rfl) (by decide) dX11_turnTo_15 rfl k) (fun u2 M3 => ?_)
  refine E.join0 (fun _ => w M3 27 [(0, .ref t), (1, .int x1_), (2, .int x2_), (3, .int x3_), (4, .int x4_), (5, .int x5_), (6, .int y1)] []) (fun _ => ?_) (fun J27 hJ27 => ?_)
  · refine E.m (h.aload_n 0 dX11_turnTo_27 rfl) ?_
    refine E.m (h.iconst (v := (1 : Int32)) dX11_turnTo_28 (by decide)) ?_
    refine E.bnd (fun u4 M5 => w M5 32 [(0, .ref t), (1, .int x1_), (2, .int x2_), (3, .int x3_), (4, .int x4_), (5, .int x5_), (6, .int y1)] [.int u4]) (fun u4 M5 hf k => h.callV (As := [.int (1 : Int32)]) (rest := []) (c_X11_refuse hW h0 hf) lm_X11_refuse lv_m_X11_refuse ll_RX11_381 h0 lc_11 rfl rfl (Nat.le_of_ble_eq_true rfl) (by decide) dX11_turnTo_29 rfl k) (fun u4 M5 => ?_)
    refine E.m (h.pop dX11_turnTo_32 rfl) ?_
    refine E.m (h.iload 5 dX11_turnTo_33 rfl) ?_
    exact E.some (ret_i hr rfl dX11_turnTo_35)
  refine E.br (fun k1 k2 => h.if_eq (tgt := 27) dX11_turnTo_18 (by decide) k1 k2) ?_ ?_
  · refine E.m (h.sub [1, 2, 3, 4, 5, 6, 0] rfl) ?_
    exact hJ27 ()
  · refine E.m (h.iload_n 3 dX11_turnTo_21 rfl) ?_
    refine E.m (h.iload 0 dX11_turnTo_22 rfl) ?_
    refine E.br (fun k1 k2 => h.icmp_ne (tgt := 36) dX11_turnTo_24 (by decide) k2 k1) ?_ ?_
    · refine E.m (h.sub [1, 2, 3, 4, 5, 6, 0] rfl) ?_
      exact hJ27 ()
    · refine E.m (h.aload_n 1 dX11_turnTo_36 rfl) ?_
      refine E.bnd (fun _ M7 => w M7 40 [(6, .int y1), (0, .ref t), (1, .int x1_), (2, .int x2_), (3, .int x3_), (4, .int x4_), (5, .int x5_)] []) (fun _ M7 hf k => h.callV (As := []) (rest := []) (c_X11_keep hW h0 hf) lm_X11_keep lv_m_X11_keep ll_RX11_384 h0 lc_11 rfl rfl (Nat.le_of_ble_eq_true rfl) (by decide) dX11_turnTo_37 rfl k) (fun _ M7 => ?_)
      refine E.m (h.aload_n 1 dX11_turnTo_40 rfl) ?_
      refine E.m (h.get h0 lf_RX11_59 dX11_turnTo_41 fv_11_8) ?_
      refine E.m (h.iload_n 2 dX11_turnTo_44 rfl) ?_
      refine E.m (h.iload_n 3 dX11_turnTo_45 rfl) ?_
      refine E.gi (fun hi k => h.iast (hW.clo 47 h0 rfl) hi dX11_turnTo_46 k) ?_
      refine E.nmM (fun M8 => ?_)
      refine E.m (h.iload 0 dX11_turnTo_47 rfl) ?_
      exact E.some (ret_i hr rfl dX11_turnTo_49)
def f_X11_lose (t : Nat) (x1_ : Int32) (M : Mem) : Option (Int32 × Mem) :=
  bd (f_X11_ready t M) (fun _ M2 => bd (f_X11_turnTo t (25 : Int32) x1_ (0 : Int32) (20 : Int32) (-1 : Int32) M2) (fun u3 M4 => some (u3, M4)))
set_option maxRecDepth 20000 in
theorem c_X11_lose {G : Ctx} (hW : WFG G) {t : Nat} {x1_ : Int32} {M M' : Mem} {r : Int32} (h0 : hs G t (0, 11)) (hf : f_X11_lose t x1_ M = some (r, M')) : Ct G yX11_lose cX11_lose 2 (some .int) 3 62 [.ref t, .int x1_] M (some (.int r)) M' := by
  refine ct_i hW (by decide +kernel) (Nat.le_of_ble_eq_true rfl) (fun w h hr => ?_)
  have h : Rb G cX11_lose RX11 2 3 62 w := h
  refine (?_ : E (fun q => q = (r, M')) (f_X11_lose t x1_ M) (w M 0 [(0, .ref t), (1, .int x1_)] [])) _ hf rfl
  unfold f_X11_lose
  refine E.m (h.aload_n 0 dX11_lose_0 rfl) ?_
  refine E.bnd (fun _ M2 => w M2 4 [(0, .ref t), (1, .int x1_)] []) (fun _ M2 hf k => h.callV (As := []) (rest := []) (c_X11_ready hW h0 hf) lm_X11_ready lv_m_X11_ready ll_RX11_247 h0 lc_11 rfl rfl (Nat.le_of_ble_eq_true rfl) (by decide) dX11_lose_1 rfl k) (fun _ M2 => ?_)
  refine E.m (h.aload_n 0 dX11_lose_4 rfl) ?_
  refine E.m (h.bipush (v := (25 : Int32)) dX11_lose_5 (by decide)) ?_
  refine E.m (h.iload_n 1 dX11_lose_7 rfl) ?_
  refine E.m (h.iconst (v := (0 : Int32)) dX11_lose_8 (by decide)) ?_
  refine E.m (h.bipush (v := (20 : Int32)) dX11_lose_9 (by decide)) ?_
  refine E.m (h.iconst (v := (-1 : Int32)) dX11_lose_11 (by decide)) ?_
  refine E.bnd (fun u3 M4 => w M4 15 [(0, .ref t), (1, .int x1_)] [.int u3]) (fun u3 M4 hf k => h.callV (As := [.int (25 : Int32), .int x1_, .int (0 : Int32), .int (20 : Int32), .int (-1 : Int32)]) (rest := []) (c_X11_turnTo hW h0 hf) lm_X11_turnTo lv_m_X11_turnTo ll_RX11_390 h0 lc_11 rfl rfl (Nat.le_of_ble_eq_true rfl) (by decide) dX11_lose_12 rfl k) (fun u3 M4 => ?_)
  exact E.some (ret_i hr rfl dX11_lose_15)
def f_X11_stall (t : Nat) (x1_ : Int32) (M : Mem) : Option (Int32 × Mem) :=
  bd (f_X11_ready t M) (fun _ M2 => bd (f_X11_turnTo t (26 : Int32) x1_ (0 : Int32) (30 : Int32) (-1 : Int32) M2) (fun u3 M4 => some (u3, M4)))
set_option maxRecDepth 20000 in
theorem c_X11_stall {G : Ctx} (hW : WFG G) {t : Nat} {x1_ : Int32} {M M' : Mem} {r : Int32} (h0 : hs G t (0, 11)) (hf : f_X11_stall t x1_ M = some (r, M')) : Ct G yX11_stall cX11_stall 2 (some .int) 3 62 [.ref t, .int x1_] M (some (.int r)) M' := by
  refine ct_i hW (by decide +kernel) (Nat.le_of_ble_eq_true rfl) (fun w h hr => ?_)
  have h : Rb G cX11_stall RX11 2 3 62 w := h
  refine (?_ : E (fun q => q = (r, M')) (f_X11_stall t x1_ M) (w M 0 [(0, .ref t), (1, .int x1_)] [])) _ hf rfl
  unfold f_X11_stall
  refine E.m (h.aload_n 0 dX11_stall_0 rfl) ?_
  refine E.bnd (fun _ M2 => w M2 4 [(0, .ref t), (1, .int x1_)] []) (fun _ M2 hf k => h.callV (As := []) (rest := []) (c_X11_ready hW h0 hf) lm_X11_ready lv_m_X11_ready ll_RX11_247 h0 lc_11 rfl rfl (Nat.le_of_ble_eq_true rfl) (by decide) dX11_stall_1 rfl k) (fun _ M2 => ?_)
  refine E.m (h.aload_n 0 dX11_stall_4 rfl) ?_
  refine E.m (h.bipush (v := (26 : Int32)) dX11_stall_5 (by decide)) ?_
  refine E.m (h.iload_n 1 dX11_stall_7 rfl) ?_
  refine E.m (h.iconst (v := (0 : Int32)) dX11_stall_8 (by decide)) ?_
  refine E.m (h.bipush (v := (30 : Int32)) dX11_stall_9 (by decide)) ?_
  refine E.m (h.iconst (v := (-1 : Int32)) dX11_stall_11 (by decide)) ?_
  refine E.bnd (fun u3 M4 => w M4 15 [(0, .ref t), (1, .int x1_)] [.int u3]) (fun u3 M4 hf k => h.callV (As := [.int (26 : Int32), .int x1_, .int (0 : Int32), .int (30 : Int32), .int (-1 : Int32)]) (rest := []) (c_X11_turnTo hW h0 hf) lm_X11_turnTo lv_m_X11_turnTo ll_RX11_390 h0 lc_11 rfl rfl (Nat.le_of_ble_eq_true rfl) (by decide) dX11_stall_12 rfl k) (fun u3 M4 => ?_)
  exact E.some (ret_i hr rfl dX11_stall_15)
def f_X11_turn (t : Nat) (x1_ : Int32) (x2_ : Int32) (M : Mem) : Option (Int32 × Mem) :=
  bd (f_X11_ready t M) (fun _ M2 => if x1_.toInt < 0 ∨ 2 < x1_.toInt then (bd (f_X11_fail t (1 : Int32) M2) (fun u3 M4 => some (u3, M4))) else if x1_ = (0 : Int32) then (bd (f_X11_turnTo t (27 : Int32) x2_ (-99 : Int32) (99 : Int32) (10000 : Int32) M2) (fun u5 M6 => some (u5, M6))) else if x1_ = (1 : Int32) then (bd (f_X11_turnTo t (28 : Int32) x2_ (0 : Int32) (2 : Int32) (10000 : Int32) M2) (fun u7 M8 => some (u7, M8))) else if x1_ = (2 : Int32) then (bd (f_X11_turnTo t (29 : Int32) x2_ (1 : Int32) (64 : Int32) (10000 : Int32) M2) (fun u9 M10 => some (u9, M10))) else none)
set_option maxRecDepth 20000 in
theorem c_X11_turn {G : Ctx} (hW : WFG G) {t : Nat} {x1_ : Int32} {x2_ : Int32} {M M' : Mem} {r : Int32} (h0 : hs G t (0, 11)) (hf : f_X11_turn t x1_ x2_ M = some (r, M')) : Ct G yX11_turn cX11_turn 3 (some .int) 3 62 [.ref t, .int x1_, .int x2_] M (some (.int r)) M' := by
  refine ct_i hW (by decide +kernel) (Nat.le_of_ble_eq_true rfl) (fun w h hr => ?_)
  have h : Rb G cX11_turn RX11 3 3 62 w := h
  refine (?_ : E (fun q => q = (r, M')) (f_X11_turn t x1_ x2_ M) (w M 0 [(0, .ref t), (1, .int x1_), (2, .int x2_)] [])) _ hf rfl
  unfold f_X11_turn
  refine E.m (h.aload_n 0 dX11_turn_0 rfl) ?_
  refine E.bnd (fun _ M2 => w M2 4 [(0, .ref t), (1, .int x1_), (2, .int x2_)] []) (fun _ M2 hf k => h.callV (As := []) (rest := []) (c_X11_ready hW h0 hf) lm_X11_ready lv_m_X11_ready ll_RX11_247 h0 lc_11 rfl rfl (Nat.le_of_ble_eq_true rfl) (by decide) dX11_turn_1 rfl k) (fun _ M2 => ?_)
  refine E.m (h.iload_n 1 dX11_turn_4 rfl) ?_
  refine E.sw (fun hc k => h.tabOut (tgt := 74) dX11_turn_5 hc (by decide) k) ?_ (fun hn => ?_)
  · refine E.m (h.aload_n 0 dX11_turn_74 rfl) ?_
    refine E.m (h.iconst (v := (1 : Int32)) dX11_turn_75 (by decide)) ?_
    refine E.bnd (fun u3 M4 => w M4 79 [(0, .ref t), (1, .int x1_), (2, .int x2_)] [.int u3]) (fun u3 M4 hf k => h.callV (As := [.int (1 : Int32)]) (rest := []) (c_X11_fail hW h0 hf) lm_X11_fail lv_m_X11_fail ll_RX11_250 h0 lc_11 rfl rfl (Nat.le_of_ble_eq_true rfl) (by decide) dX11_turn_76 rfl k) (fun u3 M4 => ?_)
    exact E.some (ret_i hr rfl dX11_turn_79)
  refine E.sw (fun hc k => h.tabIn (tgt := 32) dX11_turn_5 (by rw [hc]; decide) (by rw [hc]; decide) (by rw [hc]; rfl) (by decide) k) ?_ (fun _ => ?_)
  · refine E.m (h.aload_n 0 dX11_turn_32 rfl) ?_
    refine E.m (h.bipush (v := (27 : Int32)) dX11_turn_33 (by decide)) ?_
    refine E.m (h.iload_n 2 dX11_turn_35 rfl) ?_
    refine E.m (h.bipush (v := (-99 : Int32)) dX11_turn_36 (by decide)) ?_
    refine E.m (h.bipush (v := (99 : Int32)) dX11_turn_38 (by decide)) ?_
    refine E.m (h.sipush (v := (10000 : Int32)) dX11_turn_40 (by decide)) ?_
    refine E.bnd (fun u5 M6 => w M6 46 [(0, .ref t), (1, .int x1_), (2, .int x2_)] [.int u5]) (fun u5 M6 hf k => h.callV (As := [.int (27 : Int32), .int x2_, .int (-99 : Int32), .int (99 : Int32), .int (10000 : Int32)]) (rest := []) (c_X11_turnTo hW h0 hf) lm_X11_turnTo lv_m_X11_turnTo ll_RX11_390 h0 lc_11 rfl rfl (Nat.le_of_ble_eq_true rfl) (by decide) dX11_turn_43 rfl k) (fun u5 M6 => ?_)
    exact E.some (ret_i hr rfl dX11_turn_46)
  refine E.sw (fun hc k => h.tabIn (tgt := 47) dX11_turn_5 (by rw [hc]; decide) (by rw [hc]; decide) (by rw [hc]; rfl) (by decide) k) ?_ (fun _ => ?_)
  · refine E.m (h.aload_n 0 dX11_turn_47 rfl) ?_
    refine E.m (h.bipush (v := (28 : Int32)) dX11_turn_48 (by decide)) ?_
    refine E.m (h.iload_n 2 dX11_turn_50 rfl) ?_
    refine E.m (h.iconst (v := (0 : Int32)) dX11_turn_51 (by decide)) ?_
    refine E.m (h.iconst (v := (2 : Int32)) dX11_turn_52 (by decide)) ?_
    refine E.m (h.sipush (v := (10000 : Int32)) dX11_turn_53 (by decide)) ?_
    refine E.bnd (fun u7 M8 => w M8 59 [(0, .ref t), (1, .int x1_), (2, .int x2_)] [.int u7]) (fun u7 M8 hf k => h.callV (As := [.int (28 : Int32), .int x2_, .int (0 : Int32), .int (2 : Int32), .int (10000 : Int32)]) (rest := []) (c_X11_turnTo hW h0 hf) lm_X11_turnTo lv_m_X11_turnTo ll_RX11_390 h0 lc_11 rfl rfl (Nat.le_of_ble_eq_true rfl) (by decide) dX11_turn_56 rfl k) (fun u7 M8 => ?_)
    exact E.some (ret_i hr rfl dX11_turn_59)
  refine E.sw (fun hc k => h.tabIn (tgt := 60) dX11_turn_5 (by rw [hc]; decide) (by rw [hc]; decide) (by rw [hc]; rfl) (by decide) k) ?_ (fun _ => ?_)
  · refine E.m (h.aload_n 0 dX11_turn_60 rfl) ?_
    refine E.m (h.bipush (v := (29 : Int32)) dX11_turn_61 (by decide)) ?_
    refine E.m (h.iload_n 2 dX11_turn_63 rfl) ?_
    refine E.m (h.iconst (v := (1 : Int32)) dX11_turn_64 (by decide)) ?_
    refine E.m (h.bipush (v := (64 : Int32)) dX11_turn_65 (by decide)) ?_
    refine E.m (h.sipush (v := (10000 : Int32)) dX11_turn_67 (by decide)) ?_
    refine E.bnd (fun u9 M10 => w M10 73 [(0, .ref t), (1, .int x1_), (2, .int x2_)] [.int u9]) (fun u9 M10 hf k => h.callV (As := [.int (29 : Int32), .int x2_, .int (1 : Int32), .int (64 : Int32), .int (10000 : Int32)]) (rest := []) (c_X11_turnTo hW h0 hf) lm_X11_turnTo lv_m_X11_turnTo ll_RX11_390 h0 lc_11 rfl rfl (Nat.le_of_ble_eq_true rfl) (by decide) dX11_turn_70 rfl k) (fun u9 M10 => ?_)
    exact E.some (ret_i hr rfl dX11_turn_73)
  exact E.none
def l_X11_undo_25 (t : Nat) (k4 : Int32) (M5 : Mem) : Option ((Int32 × Mem) ⊕ (Int32 × Mem)) :=
  if (665 : Int32) ≤ k4 then (some (.inr (M5.1 t 31, M5))) else (gdi (((665 : Int32) * (M5.1 t 31)) + k4) 26600 (gdi k4 665 (nm (wi M5 (t + 8) k4.toNatClampNeg (M5.1 (t + 15) (((665 : Int32) * (M5.1 t 31)) + k4).toNatClampNeg)) (fun M6 => nm (k4 + (1 : Int32)) (fun y7 => some (.inl (y7, M6)))))))
def f_X11_undo (t : Nat) (M : Mem) : Option (Int32 × Mem) :=
  bd (f_X11_ready t M) (fun _ M2 => if (M2.1 t 31) = 0 then (some ((-1 : Int32), M2)) else (nm (wi M2 t 31 ((M2.1 t 31) - (1 : Int32))) (fun M3 => lop2 FU (l_X11_undo_25 t) (0 : Int32) M3)))
set_option maxRecDepth 20000 in
theorem c_X11_undo {G : Ctx} (hW : WFG G) {t : Nat} {M M' : Mem} {r : Int32} (h0 : hs G t (0, 11)) (hf : f_X11_undo t M = some (r, M')) : Ct G yX11_undo cX11_undo 2 (some .int) 3 62 [.ref t] M (some (.int r)) M' := by
  refine ct_i hW (by decide +kernel) (Nat.le_of_ble_eq_true rfl) (fun w h hr => ?_)
  have h : Rb G cX11_undo RX11 2 3 62 w := h
  refine (?_ : E (fun q => q = (r, M')) (f_X11_undo t M) (w M 0 [(0, .ref t)] [])) _ hf rfl
  unfold f_X11_undo
  refine E.m (h.aload_n 0 dX11_undo_0 rfl) ?_
  refine E.bnd (fun _ M2 => w M2 4 [(0, .ref t)] []) (fun _ M2 hf k => h.callV (As := []) (rest := []) (c_X11_ready hW h0 hf) lm_X11_ready lv_m_X11_ready ll_RX11_247 h0 lc_11 rfl rfl (Nat.le_of_ble_eq_true rfl) (by decide) dX11_undo_1 rfl k) (fun _ M2 => ?_)
  refine E.m (h.aload_n 0 dX11_undo_4 rfl) ?_
  refine E.m (h.get h0 lf_RX11_278 dX11_undo_5 fv_11_31) ?_
  refine E.br (fun k1 k2 => h.if_ne (tgt := 13) dX11_undo_8 (by decide) k2 k1) ?_ ?_
  · refine E.m (h.iconst (v := (-1 : Int32)) dX11_undo_11 (by decide)) ?_
    exact E.some (ret_i hr rfl dX11_undo_12)
  · refine E.m (h.aload_n 0 dX11_undo_13 rfl) ?_
    refine E.m (h.dup dX11_undo_14 rfl) ?_
    refine E.m (h.get h0 lf_RX11_278 dX11_undo_15 fv_11_31) ?_
    refine E.m (h.iconst (v := (1 : Int32)) dX11_undo_18 (by decide)) ?_
    refine E.m (h.isub dX11_undo_19) ?_
    refine E.m (h.puti h0 lp_RX11_278 rfl dX11_undo_20) ?_
    refine E.nmM (fun M3 => ?_)
    refine E.m (h.iconst (v := (0 : Int32)) dX11_undo_23 (by decide)) ?_
    refine E.m (h.istore_n dX11_undo_24 (by decide) rfl) ?_
    refine E.m (h.sub [1, 0] rfl) ?_
    refine E.loop2 (fun k4 M5 => w M5 25 [(0, .ref t), (1, .int k4)] []) (fun k4 M5 => ?_) _ _ _
    unfold l_X11_undo_25
    refine E.m (h.iload_n 1 dX11_undo_25 rfl) ?_
    refine E.m (h.sipush (v := (665 : Int32)) dX11_undo_26 (by decide)) ?_
    refine E.br (fun k1 k2 => h.icmp_ge (tgt := 59) dX11_undo_29 (by decide) k1 k2) ?_ ?_
    · refine E.m (h.aload_n 0 dX11_undo_59 rfl) ?_
      refine E.m (h.get h0 lf_RX11_278 dX11_undo_60 fv_11_31) ?_
      exact E.some (ret_i hr rfl dX11_undo_63)
    · refine E.m (h.aload_n 0 dX11_undo_32 rfl) ?_
      refine E.m (h.get h0 lf_RX11_59 dX11_undo_33 fv_11_8) ?_
      refine E.m (h.iload_n 1 dX11_undo_36 rfl) ?_
      refine E.m (h.aload_n 0 dX11_undo_37 rfl) ?_
      refine E.m (h.get h0 lf_RX11_85 dX11_undo_38 fv_11_33) ?_
      refine E.m (h.sipush (v := (665 : Int32)) dX11_undo_41 (by decide)) ?_
      refine E.m (h.aload_n 0 dX11_undo_44 rfl) ?_
      refine E.m (h.get h0 lf_RX11_278 dX11_undo_45 fv_11_31) ?_
      refine E.m (h.imul dX11_undo_48) ?_
      refine E.m (h.iload_n 1 dX11_undo_49 rfl) ?_
      refine E.m (h.iadd dX11_undo_50) ?_
      refine E.gi (fun hi k => h.iald (hW.clo 54 h0 rfl) hi dX11_undo_51 k) ?_
      refine E.gi (fun hi k => h.iast (hW.clo 47 h0 rfl) hi dX11_undo_52 k) ?_
      refine E.nmM (fun M6 => ?_)
      refine E.m (h.iinc (v := (1 : Int32)) 1 dX11_undo_53 rfl (by decide) (by decide) rfl) ?_
      refine E.nmL (fun y7 => ?_)
      refine E.m (h.goto (tgt := 25) dX11_undo_56 (by decide)) ?_
      refine E.m (h.sub [1, 0] rfl) ?_
      exact E.some (fun q => q)
def f_X11_rememberNow (t : Nat) (M : Mem) : Option (Unit × Mem) :=
  bd (f_X11_copyTo (t + 16) 665 (t + 8) 665 M) (fun _ M2 => some ((), M2))
set_option maxRecDepth 20000 in
theorem c_X11_rememberNow {G : Ctx} (hW : WFG G) {t : Nat} {M M' : Mem} (h0 : hs G t (0, 11)) (hf : f_X11_rememberNow t M = some ((), M')) : Ct G yX11_rememberNow cX11_rememberNow 1 none 1 22 [.ref t] M none M' := by
  refine ct_v hW (by decide +kernel) (Nat.le_of_ble_eq_true rfl) (fun w h hr => ?_)
  have h : Rb G cX11_rememberNow RX11 1 1 22 w := h
  refine (?_ : E (fun q => q = ((), M')) (f_X11_rememberNow t M) (w M 0 [(0, .ref t)] [])) _ hf rfl
  unfold f_X11_rememberNow
  refine E.m (h.aload_n 0 dX11_rememberNow_0 rfl) ?_
  refine E.m (h.get h0 lf_RX11_88 dX11_rememberNow_1 fv_11_34) ?_
  refine E.m (h.aload_n 0 dX11_rememberNow_4 rfl) ?_
  refine E.m (h.get h0 lf_RX11_59 dX11_rememberNow_5 fv_11_8) ?_
  refine E.bnd (fun _ M2 => w M2 11 [(0, .ref t)] []) (fun _ M2 hf k => h.callS (As := [.ref (t + 16), .ref (t + 8)]) (rest := []) (c_X11_copyTo hW (hW.clo 55 h0 rfl) (hW.clo 47 h0 rfl) hf) lm_X11_copyTo ls_m_X11_copyTo ll_RX11_394 rfl rfl (Nat.le_of_ble_eq_true rfl) (by decide) dX11_rememberNow_8 rfl k) (fun _ M2 => ?_)
  exact E.some (ret_v hr dX11_rememberNow_11)
def f_X11_back (t : Nat) (x1_ : Int32) (M : Mem) : Option (Int32 × Mem) :=
  bd (f_X11_copyTo (t + 8) 665 (t + 16) 665 M) (fun _ M2 => some (x1_, M2))
set_option maxRecDepth 20000 in
theorem c_X11_back {G : Ctx} (hW : WFG G) {t : Nat} {x1_ : Int32} {M M' : Mem} {r : Int32} (h0 : hs G t (0, 11)) (hf : f_X11_back t x1_ M = some (r, M')) : Ct G yX11_back cX11_back 2 (some .int) 1 22 [.ref t, .int x1_] M (some (.int r)) M' := by
  refine ct_i hW (by decide +kernel) (Nat.le_of_ble_eq_true rfl) (fun w h hr => ?_)
  have h : Rb G cX11_back RX11 2 1 22 w := h
  refine (?_ : E (fun q => q = (r, M')) (f_X11_back t x1_ M) (w M 0 [(0, .ref t), (1, .int x1_)] [])) _ hf rfl
  unfold f_X11_back
  refine E.m (h.aload_n 0 dX11_back_0 rfl) ?_
  refine E.m (h.get h0 lf_RX11_59 dX11_back_1 fv_11_8) ?_
  refine E.m (h.aload_n 0 dX11_back_4 rfl) ?_
  refine E.m (h.get h0 lf_RX11_88 dX11_back_5 fv_11_34) ?_
  refine E.bnd (fun _ M2 => w M2 11 [(0, .ref t), (1, .int x1_)] []) (fun _ M2 hf k => h.callS (As := [.ref (t + 8), .ref (t + 16)]) (rest := []) (c_X11_copyTo hW (hW.clo 47 h0 rfl) (hW.clo 55 h0 rfl) hf) lm_X11_copyTo ls_m_X11_copyTo ll_RX11_394 rfl rfl (Nat.le_of_ble_eq_true rfl) (by decide) dX11_back_8 rfl k) (fun _ M2 => ?_)
  refine E.m (h.iload_n 1 dX11_back_11 rfl) ?_
  exact E.some (ret_i hr rfl dX11_back_12)
def f_X11_then (t : Nat) (x1_ : Int32) (x2_ : Int32) (M : Mem) : Option (Int32 × Mem) :=
  bd (f_X11_ready t M) (fun _ M2 => bd (f_X11_isIn x2_.toInt64 (0 : Int64) (5 : Int64) M2) (fun u3 M4 => if u3 = 0 then (bd (f_X11_fail t (1 : Int32) M4) (fun u20 M21 => some (u20, M21))) else (bd (f_X11_isIn x1_.toInt64 (0 : Int64) (400 : Int64) M4) (fun u5 M6 => if u5 = 0 then (bd (f_X11_fail t (2 : Int32) M6) (fun u18 M19 => some (u18, M19))) else (bd (f_X11_rememberNow t M6) (fun _ M8 => bd (f_X11_goOn t x1_ M8) (fun _ M10 => jn2 (fun z11 M12 => bd (f_X11_back t z11 M12) (fun u13 M14 => some (u13, M14))) (fun J107 => if x2_ = 0 then (bd (f_X11_levelNow t M10) (fun u16 M17 => J107 u16 M17)) else (jn1 (fun z15 => gdi z15 665 (J107 (M10.1 (t + 8) z15.toNatClampNeg) M10)) (fun J106 => if x2_ = (1 : Int32) then (J106 (9 : Int32)) else (if x2_ = (2 : Int32) then (J106 (8 : Int32)) else (if x2_ = (3 : Int32) then (J106 (6 : Int32)) else (if x2_ = (4 : Int32) then (J106 (7 : Int32)) else (J106 (4 : Int32)))))))))))))))
set_option maxRecDepth 20000 in
theorem c_X11_then {G : Ctx} (hW : WFG G) {t : Nat} {x1_ : Int32} {x2_ : Int32} {M M' : Mem} {r : Int32} (h0 : hs G t (0, 11)) (hf : f_X11_then t x1_ x2_ M = some (r, M')) : Ct G yX11_then cX11_then 3 (some .int) 8 175 [.ref t, .int x1_, .int x2_] M (some (.int r)) M' := by
  refine ct_i hW (by decide +kernel) (Nat.le_of_ble_eq_true rfl) (fun w h hr => ?_)
  have h : Rb G cX11_then RX11 3 8 175 w := h
  refine (?_ : E (fun q => q = (r, M')) (f_X11_then t x1_ x2_ M) (w M 0 [(0, .ref t), (1, .int x1_), (2, .int x2_)] [])) _ hf rfl
  unfold f_X11_then
  refine E.m (h.aload_n 0 dX11_then_0 rfl) ?_
  refine E.bnd (fun _ M2 => w M2 4 [(0, .ref t), (1, .int x1_), (2, .int x2_)] []) (fun _ M2 hf k => h.callV (As := []) (rest := []) (c_X11_ready hW h0 hf) lm_X11_ready lv_m_X11_ready ll_RX11_247 h0 lc_11 rfl rfl (Nat.le_of_ble_eq_true rfl) (by decide) dX11_then_1 rfl k) (fun _ M2 => ?_)
  refine E.m (h.iload_n 2 dX11_then_4 rfl) ?_
  refine E.m (h.i2l dX11_then_5) ?_
  refine E.m (h.lconst (v := (0 : Int64)) dX11_then_6 (by decide)) ?_
  refine E.m (h.ldc2 lj_RX11_398 dX11_then_7) ?_
  refine E.bnd (fun u3 M4 => w M4 13 [(0, .ref t), (1, .int x1_), (2, .int x2_)] [.int u3]) (fun u3 M4 hf k => h.callS (As := [.long x2_.toInt64, .long (0 : Int64), .long (5 : Int64)]) (rest := []) (c_X11_isIn hW hf) lm_X11_isIn ls_m_X11_isIn ll_RX11_358 rfl rfl (Nat.le_of_ble_eq_true rfl) (by decide) dX11_then_10 rfl k) (fun u3 M4 => ?_)
  refine E.br (fun k1 k2 => h.if_ne (tgt := 22) dX11_then_13 (by decide) k2 k1) ?_ ?_
  · refine E.m (h.aload_n 0 dX11_then_16 rfl) ?_
    refine E.m (h.iconst (v := (1 : Int32)) dX11_then_17 (by decide)) ?_
    refine E.bnd (fun u20 M21 => w M21 21 [(0, .ref t), (1, .int x1_), (2, .int x2_)] [.int u20]) (fun u20 M21 hf k => h.callV (As := [.int (1 : Int32)]) (rest := []) (c_X11_fail hW h0 hf) lm_X11_fail lv_m_X11_fail ll_RX11_250 h0 lc_11 rfl rfl (Nat.le_of_ble_eq_true rfl) (by decide) dX11_then_18 rfl k) (fun u20 M21 => ?_)
    exact E.some (ret_i hr rfl dX11_then_21)
  · refine E.m (h.iload_n 1 dX11_then_22 rfl) ?_
    refine E.m (h.i2l dX11_then_23) ?_
    refine E.m (h.lconst (v := (0 : Int64)) dX11_then_24 (by decide)) ?_
    refine E.m (h.ldc2 lj_RX11_400 dX11_then_25) ?_
    refine E.bnd (fun u5 M6 => w M6 31 [(0, .ref t), (1, .int x1_), (2, .int x2_)] [.int u5]) (fun u5 M6 hf k => h.callS (As := [.long x1_.toInt64, .long (0 : Int64), .long (400 : Int64)]) (rest := []) (c_X11_isIn hW hf) lm_X11_isIn ls_m_X11_isIn ll_RX11_358 rfl rfl (Nat.le_of_ble_eq_true rfl) (by decide) dX11_then_28 rfl k) (fun u5 M6 => ?_)
    refine E.br (fun k1 k2 => h.if_ne (tgt := 40) dX11_then_31 (by decide) k2 k1) ?_ ?_
    · refine E.m (h.aload_n 0 dX11_then_34 rfl) ?_
      refine E.m (h.iconst (v := (2 : Int32)) dX11_then_35 (by decide)) ?_
      refine E.bnd (fun u18 M19 => w M19 39 [(0, .ref t), (1, .int x1_), (2, .int x2_)] [.int u18]) (fun u18 M19 hf k => h.callV (As := [.int (2 : Int32)]) (rest := []) (c_X11_fail hW h0 hf) lm_X11_fail lv_m_X11_fail ll_RX11_250 h0 lc_11 rfl rfl (Nat.le_of_ble_eq_true rfl) (by decide) dX11_then_36 rfl k) (fun u18 M19 => ?_)
      exact E.some (ret_i hr rfl dX11_then_39)
    · refine E.m (h.aload_n 0 dX11_then_40 rfl) ?_
      refine E.bnd (fun _ M8 => w M8 44 [(0, .ref t), (1, .int x1_), (2, .int x2_)] []) (fun _ M8 hf k => h.callV (As := []) (rest := []) (c_X11_rememberNow hW h0 hf) lm_X11_rememberNow lv_m_X11_rememberNow ll_RX11_402 h0 lc_11 rfl rfl (Nat.le_of_ble_eq_true rfl) (by decide) dX11_then_41 rfl k) (fun _ M8 => ?_)
      refine E.m (h.aload_n 0 dX11_then_44 rfl) ?_
      refine E.m (h.iload_n 1 dX11_then_45 rfl) ?_
      refine E.bnd (fun _ M10 => w M10 49 [(0, .ref t), (1, .int x1_), (2, .int x2_)] []) (fun _ M10 hf k => h.callV (As := [.int x1_]) (rest := []) (c_X11_goOn hW h0 hf) lm_X11_goOn lv_m_X11_goOn ll_RX11_387 h0 lc_11 rfl rfl (Nat.le_of_ble_eq_true rfl) (by decide) dX11_then_46 rfl k) (fun _ M10 => ?_)
      refine E.m (h.aload_n 0 dX11_then_49 rfl) ?_
      refine E.m (h.iload_n 2 dX11_then_50 rfl) ?_
      refine E.join2 (fun z11 M12 => w M12 107 [(0, .ref t), (1, .int x1_), (2, .int x2_)] [.int z11, .ref t]) (fun z11 M12 => ?_) (fun J107 hJ107 => ?_)
      · refine E.bnd (fun u13 M14 => w M14 110 [(0, .ref t), (1, .int x1_), (2, .int x2_)] [.int u13]) (fun u13 M14 hf k => h.callV (As := [.int z11]) (rest := []) (c_X11_back hW h0 hf) lm_X11_back lv_m_X11_back ll_RX11_405 h0 lc_11 rfl rfl (Nat.le_of_ble_eq_true rfl) (by decide) dX11_then_107 rfl k) (fun u13 M14 => ?_)
        exact E.some (ret_i hr rfl dX11_then_110)
      refine E.br (fun k1 k2 => h.if_ne (tgt := 61) dX11_then_51 (by decide) k2 k1) ?_ ?_
      · refine E.m (h.aload_n 0 dX11_then_54 rfl) ?_
        refine E.bnd (fun u16 M17 => w M17 58 [(0, .ref t), (1, .int x1_), (2, .int x2_)] [.int u16, .ref t]) (fun u16 M17 hf k => h.callV (As := []) (rest := [.ref t]) (c_X11_levelNow hW h0 hf) lm_X11_levelNow lv_m_X11_levelNow ll_RX11_325 h0 lc_11 rfl rfl (Nat.le_of_ble_eq_true rfl) (by decide) dX11_then_55 rfl k) (fun u16 M17 => ?_)
        refine E.m (h.goto (tgt := 107) dX11_then_58 (by decide)) ?_
        exact hJ107 _ _
      · refine E.m (h.aload_n 0 dX11_then_61 rfl) ?_
        refine E.m (h.get h0 lf_RX11_59 dX11_then_62 fv_11_8) ?_
        refine E.m (h.iload_n 2 dX11_then_65 rfl) ?_
        refine E.m (h.iconst (v := (1 : Int32)) dX11_then_66 (by decide)) ?_
        refine E.join1 (fun z15 => w M10 106 [(0, .ref t), (1, .int x1_), (2, .int x2_)] [.int z15, .ref (t + 8), .ref t]) (fun z15 => ?_) (fun J106 hJ106 => ?_)
        · refine E.gi (fun hi k => h.iald (hW.clo 47 h0 rfl) hi dX11_then_106 k) ?_
          exact hJ107 _ _
        refine E.br (fun k1 k2 => h.icmp_ne (tgt := 75) dX11_then_67 (by decide) k2 k1) ?_ ?_
        · refine E.m (h.bipush (v := (9 : Int32)) dX11_then_70 (by decide)) ?_
          refine E.m (h.goto (tgt := 106) dX11_then_72 (by decide)) ?_
          exact hJ106 _
        · refine E.m (h.iload_n 2 dX11_then_75 rfl) ?_
          refine E.m (h.iconst (v := (2 : Int32)) dX11_then_76 (by decide)) ?_
          refine E.br (fun k1 k2 => h.icmp_ne (tgt := 85) dX11_then_77 (by decide) k2 k1) ?_ ?_
          · refine E.m (h.bipush (v := (8 : Int32)) dX11_then_80 (by decide)) ?_
            refine E.m (h.goto (tgt := 106) dX11_then_82 (by decide)) ?_
            exact hJ106 _
          · refine E.m (h.iload_n 2 dX11_then_85 rfl) ?_
            refine E.m (h.iconst (v := (3 : Int32)) dX11_then_86 (by decide)) ?_
            refine E.br (fun k1 k2 => h.icmp_ne (tgt := 95) dX11_then_87 (by decide) k2 k1) ?_ ?_
            · refine E.m (h.bipush (v := (6 : Int32)) dX11_then_90 (by decide)) ?_
              refine E.m (h.goto (tgt := 106) dX11_then_92 (by decide)) ?_
              exact hJ106 _
            · refine E.m (h.iload_n 2 dX11_then_95 rfl) ?_
              refine E.m (h.iconst (v := (4 : Int32)) dX11_then_96 (by decide)) ?_
              refine E.br (fun k1 k2 => h.icmp_ne (tgt := 105) dX11_then_97 (by decide) k2 k1) ?_ ?_
              · refine E.m (h.bipush (v := (7 : Int32)) dX11_then_100 (by decide)) ?_
                refine E.m (h.goto (tgt := 106) dX11_then_102 (by decide)) ?_
                exact hJ106 _
              · refine E.m (h.iconst (v := (4 : Int32)) dX11_then_105 (by decide)) ?_
                exact hJ106 _
def f_X11_isOnce (t : Nat) (x1_ : Int32) (M : Mem) : Option (Int32 × Mem) :=
  if x1_ = 0 then (jn1 (fun z3 => gdp (z3 = 0 ∨ z3 = 1) (some (z3, M))) (fun J20 => if (M.1 (t + 8) 8) = (2 : Int32) then (J20 (1 : Int32)) else (J20 (0 : Int32)))) else (if x1_ = (1 : Int32) then (jn1 (fun z2 => gdp (z2 = 0 ∨ z2 = 1) (some (z2, M))) (fun J48 => if (M.1 (t + 8) 7) ≤ (M.1 (t + 16) 7) then (J48 (0 : Int32)) else (J48 (1 : Int32)))) else (jn1 (fun z1 => gdp (z1 = 0 ∨ z1 = 1) (some (z1, M))) (fun J113 => if x1_ = (2 : Int32) then (if ((M.1 (t + 8) 4) + (M.1 (t + 8) 5)) ≤ ((M.1 (t + 16) 4) + (M.1 (t + 16) 5)) then (J113 (0 : Int32)) else (J113 (1 : Int32))) else (if (M.1 (t + 8) 12) ≤ (M.1 (t + 16) 12) then (J113 (0 : Int32)) else (J113 (1 : Int32))))))
set_option maxRecDepth 20000 in
theorem c_X11_isOnce {G : Ctx} (hW : WFG G) {t : Nat} {x1_ : Int32} {M M' : Mem} {r : Int32} (h0 : hs G t (0, 11)) (hf : f_X11_isOnce t x1_ M = some (r, M')) : Ct G yX11_isOnce cX11_isOnce 2 (some .boolean) 0 0 [.ref t, .int x1_] M (some (.int r)) M' := by
  refine ct_i hW (by decide +kernel) (Nat.le_of_ble_eq_true rfl) (fun w h hr => ?_)
  have h : Rb G cX11_isOnce RX11 2 0 0 w := h
  refine (?_ : E (fun q => q = (r, M')) (f_X11_isOnce t x1_ M) (w M 0 [(0, .ref t), (1, .int x1_)] [])) _ hf rfl
  unfold f_X11_isOnce
  refine E.m (h.iload_n 1 dX11_isOnce_0 rfl) ?_
  refine E.br (fun k1 k2 => h.if_ne (tgt := 21) dX11_isOnce_1 (by decide) k2 k1) ?_ ?_
  · refine E.m (h.aload_n 0 dX11_isOnce_4 rfl) ?_
    refine E.m (h.get h0 lf_RX11_59 dX11_isOnce_5 fv_11_8) ?_
    refine E.m (h.bipush (v := (8 : Int32)) dX11_isOnce_8 (by decide)) ?_
    refine E.m (h.ialdk (k := 8) (hW.clo 47 h0 rfl) (by decide) rfl dX11_isOnce_10) ?_
    refine E.m (h.iconst (v := (2 : Int32)) dX11_isOnce_11 (by decide)) ?_
    refine E.join1 (fun z3 => w M 20 [(0, .ref t), (1, .int x1_)] [.int z3]) (fun z3 => ?_) (fun J20 hJ20 => ?_)
    · refine E.gd (fun hc k => k hc) (fun hc => E.imp fun hc => ?_)
      exact E.some (ret_i hr (bl_n hc).1 dX11_isOnce_20)
    refine E.br (fun k1 k2 => h.icmp_ne (tgt := 19) dX11_isOnce_12 (by decide) k2 k1) ?_ ?_
    · refine E.m (h.iconst (v := (1 : Int32)) dX11_isOnce_15 (by decide)) ?_
      refine E.m (h.goto (tgt := 20) dX11_isOnce_16 (by decide)) ?_
      exact hJ20 _
    · refine E.m (h.iconst (v := (0 : Int32)) dX11_isOnce_19 (by decide)) ?_
      exact hJ20 _
  · refine E.m (h.iload_n 1 dX11_isOnce_21 rfl) ?_
    refine E.m (h.iconst (v := (1 : Int32)) dX11_isOnce_22 (by decide)) ?_
    refine E.br (fun k1 k2 => h.icmp_ne (tgt := 49) dX11_isOnce_23 (by decide) k2 k1) ?_ ?_
    · refine E.m (h.aload_n 0 dX11_isOnce_26 rfl) ?_
      refine E.m (h.get h0 lf_RX11_59 dX11_isOnce_27 fv_11_8) ?_
      refine E.m (h.bipush (v := (7 : Int32)) dX11_isOnce_30 (by decide)) ?_
      refine E.m (h.ialdk (k := 7) (hW.clo 47 h0 rfl) (by decide) rfl dX11_isOnce_32) ?_
      refine E.m (h.aload_n 0 dX11_isOnce_33 rfl) ?_
      refine E.m (h.get h0 lf_RX11_88 dX11_isOnce_34 fv_11_34) ?_
      refine E.m (h.bipush (v := (7 : Int32)) dX11_isOnce_37 (by decide)) ?_
      refine E.m (h.ialdk (k := 7) (hW.clo 55 h0 rfl) (by decide) rfl dX11_isOnce_39) ?_
      refine E.join1 (fun z2 => w M 48 [(0, .ref t), (1, .int x1_)] [.int z2]) (fun z2 => ?_) (fun J48 hJ48 => ?_)
      · refine E.gd (fun hc k => k hc) (fun hc => E.imp fun hc => ?_)
        exact E.some (ret_i hr (bl_n hc).1 dX11_isOnce_48)
      refine E.br (fun k1 k2 => h.icmp_le (tgt := 47) dX11_isOnce_40 (by decide) k1 k2) ?_ ?_
      · refine E.m (h.iconst (v := (0 : Int32)) dX11_isOnce_47 (by decide)) ?_
        exact hJ48 _
      · refine E.m (h.iconst (v := (1 : Int32)) dX11_isOnce_43 (by decide)) ?_
        refine E.m (h.goto (tgt := 48) dX11_isOnce_44 (by decide)) ?_
        exact hJ48 _
    · refine E.m (h.iload_n 1 dX11_isOnce_49 rfl) ?_
      refine E.m (h.iconst (v := (2 : Int32)) dX11_isOnce_50 (by decide)) ?_
      refine E.join1 (fun z1 => w M 113 [(0, .ref t), (1, .int x1_)] [.int z1]) (fun z1 => ?_) (fun J113 hJ113 => ?_)
      · refine E.gd (fun hc k => k hc) (fun hc => E.imp fun hc => ?_)
        exact E.some (ret_i hr (bl_n hc).1 dX11_isOnce_113)
      refine E.br (fun k1 k2 => h.icmp_ne (tgt := 91) dX11_isOnce_51 (by decide) k2 k1) ?_ ?_
      · refine E.m (h.aload_n 0 dX11_isOnce_54 rfl) ?_
        refine E.m (h.get h0 lf_RX11_59 dX11_isOnce_55 fv_11_8) ?_
        refine E.m (h.iconst (v := (4 : Int32)) dX11_isOnce_58 (by decide)) ?_
        refine E.m (h.ialdk (k := 4) (hW.clo 47 h0 rfl) (by decide) rfl dX11_isOnce_59) ?_
        refine E.m (h.aload_n 0 dX11_isOnce_60 rfl) ?_
        refine E.m (h.get h0 lf_RX11_59 dX11_isOnce_61 fv_11_8) ?_
        refine E.m (h.iconst (v := (5 : Int32)) dX11_isOnce_64 (by decide)) ?_
        refine E.m (h.ialdk (k := 5) (hW.clo 47 h0 rfl) (by decide) rfl dX11_isOnce_65) ?_
        refine E.m (h.iadd dX11_isOnce_66) ?_
        refine E.m (h.aload_n 0 dX11_isOnce_67 rfl) ?_
        refine E.m (h.get h0 lf_RX11_88 dX11_isOnce_68 fv_11_34) ?_
        refine E.m (h.iconst (v := (4 : Int32)) dX11_isOnce_71 (by decide)) ?_
        refine E.m (h.ialdk (k := 4) (hW.clo 55 h0 rfl) (by decide) rfl dX11_isOnce_72) ?_
        refine E.m (h.aload_n 0 dX11_isOnce_73 rfl) ?_
        refine E.m (h.get h0 lf_RX11_88 dX11_isOnce_74 fv_11_34) ?_
        refine E.m (h.iconst (v := (5 : Int32)) dX11_isOnce_77 (by decide)) ?_
        refine E.m (h.ialdk (k := 5) (hW.clo 55 h0 rfl) (by decide) rfl dX11_isOnce_78) ?_
        refine E.m (h.iadd dX11_isOnce_79) ?_
        refine E.br (fun k1 k2 => h.icmp_le (tgt := 87) dX11_isOnce_80 (by decide) k1 k2) ?_ ?_
        · refine E.m (h.iconst (v := (0 : Int32)) dX11_isOnce_87 (by decide)) ?_
          refine E.m (h.goto (tgt := 113) dX11_isOnce_88 (by decide)) ?_
          exact hJ113 _
        · refine E.m (h.iconst (v := (1 : Int32)) dX11_isOnce_83 (by decide)) ?_
          refine E.m (h.goto (tgt := 113) dX11_isOnce_84 (by decide)) ?_
          exact hJ113 _
      · refine E.m (h.aload_n 0 dX11_isOnce_91 rfl) ?_
        refine E.m (h.get h0 lf_RX11_59 dX11_isOnce_92 fv_11_8) ?_
        refine E.m (h.bipush (v := (12 : Int32)) dX11_isOnce_95 (by decide)) ?_
        refine E.m (h.ialdk (k := 12) (hW.clo 47 h0 rfl) (by decide) rfl dX11_isOnce_97) ?_
        refine E.m (h.aload_n 0 dX11_isOnce_98 rfl) ?_
        refine E.m (h.get h0 lf_RX11_88 dX11_isOnce_99 fv_11_34) ?_
        refine E.m (h.bipush (v := (12 : Int32)) dX11_isOnce_102 (by decide)) ?_
        refine E.m (h.ialdk (k := 12) (hW.clo 55 h0 rfl) (by decide) rfl dX11_isOnce_104) ?_
        refine E.br (fun k1 k2 => h.icmp_le (tgt := 112) dX11_isOnce_105 (by decide) k1 k2) ?_ ?_
        · refine E.m (h.iconst (v := (0 : Int32)) dX11_isOnce_112 (by decide)) ?_
          exact hJ113 _
        · refine E.m (h.iconst (v := (1 : Int32)) dX11_isOnce_108 (by decide)) ?_
          refine E.m (h.goto (tgt := 113) dX11_isOnce_109 (by decide)) ?_
          exact hJ113 _
def l_X11_when_28 (t : Nat) (x1_ : Int32) (k7 : Int32) (M8 : Mem) : Option ((Int32 × Mem) ⊕ (Int32 × Mem)) :=
  if (400 : Int32) < k7 then (bd (f_X11_back t (-1 : Int32) M8) (fun u9 M10 => some (.inr (u9, M10)))) else (bd (f_X11_isOnce t x1_ M8) (fun u11 M12 => if u11 = 0 then (bd (f_X11_aStep t M12) (fun _ M14 => nm (k7 + (1 : Int32)) (fun y15 => some (.inl (y15, M14))))) else (bd (f_X11_back t k7 M12) (fun u16 M17 => some (.inr (u16, M17))))))
def f_X11_when (t : Nat) (x1_ : Int32) (M : Mem) : Option (Int32 × Mem) :=
  bd (f_X11_ready t M) (fun _ M2 => bd (f_X11_isIn x1_.toInt64 (0 : Int64) (3 : Int64) M2) (fun u3 M4 => if u3 = 0 then (bd (f_X11_fail t (1 : Int32) M4) (fun u18 M19 => some (u18, M19))) else (bd (f_X11_rememberNow t M4) (fun _ M6 => lop2 FU (l_X11_when_28 t x1_) (0 : Int32) M6))))
set_option maxRecDepth 20000 in
theorem c_X11_when {G : Ctx} (hW : WFG G) {t : Nat} {x1_ : Int32} {M M' : Mem} {r : Int32} (h0 : hs G t (0, 11)) (hf : f_X11_when t x1_ M = some (r, M')) : Ct G yX11_when cX11_when 3 (some .int) 7 153 [.ref t, .int x1_] M (some (.int r)) M' := by
  refine ct_i hW (by decide +kernel) (Nat.le_of_ble_eq_true rfl) (fun w h hr => ?_)
  have h : Rb G cX11_when RX11 3 7 153 w := h
  refine (?_ : E (fun q => q = (r, M')) (f_X11_when t x1_ M) (w M 0 [(0, .ref t), (1, .int x1_)] [])) _ hf rfl
  unfold f_X11_when
  refine E.m (h.aload_n 0 dX11_when_0 rfl) ?_
  refine E.bnd (fun _ M2 => w M2 4 [(0, .ref t), (1, .int x1_)] []) (fun _ M2 hf k => h.callV (As := []) (rest := []) (c_X11_ready hW h0 hf) lm_X11_ready lv_m_X11_ready ll_RX11_247 h0 lc_11 rfl rfl (Nat.le_of_ble_eq_true rfl) (by decide) dX11_when_1 rfl k) (fun _ M2 => ?_)
  refine E.m (h.iload_n 1 dX11_when_4 rfl) ?_
  refine E.m (h.i2l dX11_when_5) ?_
  refine E.m (h.lconst (v := (0 : Int64)) dX11_when_6 (by decide)) ?_
  refine E.m (h.ldc2 lj_RX11_408 dX11_when_7) ?_
  refine E.bnd (fun u3 M4 => w M4 13 [(0, .ref t), (1, .int x1_)] [.int u3]) (fun u3 M4 hf k => h.callS (As := [.long x1_.toInt64, .long (0 : Int64), .long (3 : Int64)]) (rest := []) (c_X11_isIn hW hf) lm_X11_isIn ls_m_X11_isIn ll_RX11_358 rfl rfl (Nat.le_of_ble_eq_true rfl) (by decide) dX11_when_10 rfl k) (fun u3 M4 => ?_)
  refine E.br (fun k1 k2 => h.if_ne (tgt := 22) dX11_when_13 (by decide) k2 k1) ?_ ?_
  · refine E.m (h.aload_n 0 dX11_when_16 rfl) ?_
    refine E.m (h.iconst (v := (1 : Int32)) dX11_when_17 (by decide)) ?_
    refine E.bnd (fun u18 M19 => w M19 21 [(0, .ref t), (1, .int x1_)] [.int u18]) (fun u18 M19 hf k => h.callV (As := [.int (1 : Int32)]) (rest := []) (c_X11_fail hW h0 hf) lm_X11_fail lv_m_X11_fail ll_RX11_250 h0 lc_11 rfl rfl (Nat.le_of_ble_eq_true rfl) (by decide) dX11_when_18 rfl k) (fun u18 M19 => ?_)
    exact E.some (ret_i hr rfl dX11_when_21)
  · refine E.m (h.aload_n 0 dX11_when_22 rfl) ?_
    refine E.bnd (fun _ M6 => w M6 26 [(0, .ref t), (1, .int x1_)] []) (fun _ M6 hf k => h.callV (As := []) (rest := []) (c_X11_rememberNow hW h0 hf) lm_X11_rememberNow lv_m_X11_rememberNow ll_RX11_402 h0 lc_11 rfl rfl (Nat.le_of_ble_eq_true rfl) (by decide) dX11_when_23 rfl k) (fun _ M6 => ?_)
    refine E.m (h.iconst (v := (0 : Int32)) dX11_when_26 (by decide)) ?_
    refine E.m (h.istore_n dX11_when_27 (by decide) rfl) ?_
    refine E.m (h.sub [1, 2, 0] rfl) ?_
    refine E.loop2 (fun k7 M8 => w M8 28 [(0, .ref t), (1, .int x1_), (2, .int k7)] []) (fun k7 M8 => ?_) _ _ _
    unfold l_X11_when_28
    refine E.m (h.iload_n 2 dX11_when_28 rfl) ?_
    refine E.m (h.sipush (v := (400 : Int32)) dX11_when_29 (by decide)) ?_
    refine E.br (fun k1 k2 => h.icmp_gt (tgt := 59) dX11_when_32 (by decide) k1 k2) ?_ ?_
    · refine E.m (h.aload_n 0 dX11_when_59 rfl) ?_
      refine E.m (h.iconst (v := (-1 : Int32)) dX11_when_60 (by decide)) ?_
      refine E.bnd (fun u9 M10 => w M10 64 [(0, .ref t), (1, .int x1_), (2, .int k7)] [.int u9]) (fun u9 M10 hf k => h.callV (As := [.int (-1 : Int32)]) (rest := []) (c_X11_back hW h0 hf) lm_X11_back lv_m_X11_back ll_RX11_405 h0 lc_11 rfl rfl (Nat.le_of_ble_eq_true rfl) (by decide) dX11_when_61 rfl k) (fun u9 M10 => ?_)
      exact E.some (ret_i hr rfl dX11_when_64)
    · refine E.m (h.aload_n 0 dX11_when_35 rfl) ?_
      refine E.m (h.iload_n 1 dX11_when_36 rfl) ?_
      refine E.bnd (fun u11 M12 => w M12 40 [(0, .ref t), (1, .int x1_), (2, .int k7)] [.int u11]) (fun u11 M12 hf k => h.callV (As := [.int x1_]) (rest := []) (c_X11_isOnce hW h0 hf) lm_X11_isOnce lv_m_X11_isOnce ll_RX11_410 h0 lc_11 rfl rfl (Nat.le_of_ble_eq_true rfl) (by decide) dX11_when_37 rfl k) (fun u11 M12 => ?_)
      refine E.br (fun k1 k2 => h.if_eq (tgt := 49) dX11_when_40 (by decide) k1 k2) ?_ ?_
      · refine E.m (h.aload_n 0 dX11_when_49 rfl) ?_
        refine E.bnd (fun _ M14 => w M14 53 [(0, .ref t), (1, .int x1_), (2, .int k7)] []) (fun _ M14 hf k => h.callV (As := []) (rest := []) (c_X11_aStep hW h0 hf) lm_X11_aStep lv_m_X11_aStep ll_RX11_349 h0 lc_11 rfl rfl (Nat.le_of_ble_eq_true rfl) (by decide) dX11_when_50 rfl k) (fun _ M14 => ?_)
        refine E.m (h.iinc (v := (1 : Int32)) 2 dX11_when_53 rfl (by decide) (by decide) rfl) ?_
        refine E.nmL (fun y15 => ?_)
        refine E.m (h.goto (tgt := 28) dX11_when_56 (by decide)) ?_
        refine E.m (h.sub [1, 2, 0] rfl) ?_
        exact E.some (fun q => q)
      · refine E.m (h.aload_n 0 dX11_when_43 rfl) ?_
        refine E.m (h.iload_n 2 dX11_when_44 rfl) ?_
        refine E.bnd (fun u16 M17 => w M17 48 [(0, .ref t), (1, .int x1_), (2, .int k7)] [.int u16]) (fun u16 M17 hf k => h.callV (As := [.int k7]) (rest := []) (c_X11_back hW h0 hf) lm_X11_back lv_m_X11_back ll_RX11_405 h0 lc_11 rfl rfl (Nat.le_of_ble_eq_true rfl) (by decide) dX11_when_45 rfl k) (fun u16 M17 => ?_)
        exact E.some (ret_i hr rfl dX11_when_48)
def f_X11_isNear (t : Nat) (M : Mem) : Option (Int32 × Mem) :=
  bd (f_X11_levelNow t M) (fun u1 M2 => bd (f_J9_abs_0f7a4 (u1 - (M2.1 (t + 8) 29)) M2) (fun u3 M4 => jn1 (fun z5 => gdp (z5 = 0 ∨ z5 = 1) (some (z5, M4))) (fun J24 => if (2 : Int32) < u3 then (J24 (0 : Int32)) else (J24 (1 : Int32)))))
set_option maxRecDepth 20000 in
theorem c_X11_isNear {G : Ctx} (hW : WFG G) {t : Nat} {M M' : Mem} {r : Int32} (h0 : hs G t (0, 11)) (hf : f_X11_isNear t M = some (r, M')) : Ct G yX11_isNear cX11_isNear 1 (some .boolean) 2 44 [.ref t] M (some (.int r)) M' := by
  refine ct_i hW (by decide +kernel) (Nat.le_of_ble_eq_true rfl) (fun w h hr => ?_)
  have h : Rb G cX11_isNear RX11 1 2 44 w := h
  refine (?_ : E (fun q => q = (r, M')) (f_X11_isNear t M) (w M 0 [(0, .ref t)] [])) _ hf rfl
  unfold f_X11_isNear
  refine E.m (h.aload_n 0 dX11_isNear_0 rfl) ?_
  refine E.bnd (fun u1 M2 => w M2 4 [(0, .ref t)] [.int u1]) (fun u1 M2 hf k => h.callV (As := []) (rest := []) (c_X11_levelNow hW h0 hf) lm_X11_levelNow lv_m_X11_levelNow ll_RX11_325 h0 lc_11 rfl rfl (Nat.le_of_ble_eq_true rfl) (by decide) dX11_isNear_1 rfl k) (fun u1 M2 => ?_)
  refine E.m (h.aload_n 0 dX11_isNear_4 rfl) ?_
  refine E.m (h.get h0 lf_RX11_59 dX11_isNear_5 fv_11_8) ?_
  refine E.m (h.bipush (v := (29 : Int32)) dX11_isNear_8 (by decide)) ?_
  refine E.m (h.ialdk (k := 29) (hW.clo 47 h0 rfl) (by decide) rfl dX11_isNear_10) ?_
  refine E.m (h.isub dX11_isNear_11) ?_
  refine E.bnd (fun u3 M4 => w M4 15 [(0, .ref t)] [.int u3]) (fun u3 M4 hf k => h.callS (As := [.int (u1 - (M2.1 (t + 8) 29))]) (rest := []) (c_J9_abs_0f7a4 hW hf) lm_J9_abs_0f7a4 ls_m_J9_abs_0f7a4 ll_RX11_413 rfl rfl (Nat.le_of_ble_eq_true rfl) (by decide) dX11_isNear_12 rfl k) (fun u3 M4 => ?_)
  refine E.m (h.iconst (v := (2 : Int32)) dX11_isNear_15 (by decide)) ?_
  refine E.join1 (fun z5 => w M4 24 [(0, .ref t)] [.int z5]) (fun z5 => ?_) (fun J24 hJ24 => ?_)
  · refine E.gd (fun hc k => k hc) (fun hc => E.imp fun hc => ?_)
    exact E.some (ret_i hr (bl_n hc).1 dX11_isNear_24)
  refine E.br (fun k1 k2 => h.icmp_gt (tgt := 23) dX11_isNear_16 (by decide) k1 k2) ?_ ?_
  · refine E.m (h.iconst (v := (0 : Int32)) dX11_isNear_23 (by decide)) ?_
    exact hJ24 _
  · refine E.m (h.iconst (v := (1 : Int32)) dX11_isNear_19 (by decide)) ?_
    refine E.m (h.goto (tgt := 24) dX11_isNear_20 (by decide)) ?_
    exact hJ24 _
def l_X11_settles_34 (t : Nat) (k7 : Int32) (k8 : Int32) (M9 : Mem) : Option ((Int32 × Int32 × Mem) ⊕ (Int32 × Mem)) :=
  if (440 : Int32) < k8 then (bd (f_X11_back t (-1 : Int32) M9) (fun u10 M11 => some (.inr (u10, M11)))) else (bd (f_X11_aStep t M9) (fun _ M13 => jn1 (fun z14 => gdi k8 441 (nm (wi M13 (t + 17) k8.toNatClampNeg z14) (fun M15 => bd (f_X11_isNear t M15) (fun u16 M17 => jn1 (fun z18 => jn0 (fun _ => nm (k8 + (1 : Int32)) (fun y19 => some (.inl (z18, y19, M17)))) (fun J110 => if z18 < (40 : Int32) then (J110 ()) else (gdi (k8 - (40 : Int32)) 441 (if (M17.1 (t + 17) (k8 - (40 : Int32)).toNatClampNeg) = (1 : Int32) then (bd (f_X11_back t (k8 - (40 : Int32)) M17) (fun u20 M21 => some (.inr (u20, M21)))) else (J110 ()))))) (fun J81 => if u16 = 0 then (J81 (0 : Int32)) else (J81 (k7 + (1 : Int32)))))))) (fun J66 => if (M13.1 (t + 8) 8) = (2 : Int32) then (J66 (1 : Int32)) else (J66 (0 : Int32)))))
def f_X11_settles (t : Nat) (M : Mem) : Option (Int32 × Mem) :=
  bd (f_X11_ready t M) (fun _ M2 => bd (f_X11_rememberNow t M2) (fun _ M4 => jn1 (fun z5 => nm (wi M4 (t + 17) 0 z5) (fun M6 => lop3 FU (l_X11_settles_34 t) (0 : Int32) (1 : Int32) M6)) (fun J29 => if (M4.1 (t + 8) 8) = (2 : Int32) then (J29 (1 : Int32)) else (J29 (0 : Int32)))))
set_option maxRecDepth 20000 in
theorem c_X11_settles {G : Ctx} (hW : WFG G) {t : Nat} {M M' : Mem} {r : Int32} (h0 : hs G t (0, 11)) (hf : f_X11_settles t M = some (r, M')) : Ct G yX11_settles cX11_settles 3 (some .int) 7 153 [.ref t] M (some (.int r)) M' := by
  refine ct_i hW (by decide +kernel) (Nat.le_of_ble_eq_true rfl) (fun w h hr => ?_)
  have h : Rb G cX11_settles RX11 3 7 153 w := h
  refine (?_ : E (fun q => q = (r, M')) (f_X11_settles t M) (w M 0 [(0, .ref t)] [])) _ hf rfl
  unfold f_X11_settles
  refine E.m (h.aload_n 0 dX11_settles_0 rfl) ?_
  refine E.bnd (fun _ M2 => w M2 4 [(0, .ref t)] []) (fun _ M2 hf k => h.callV (As := []) (rest := []) (c_X11_ready hW h0 hf) lm_X11_ready lv_m_X11_ready ll_RX11_247 h0 lc_11 rfl rfl (Nat.le_of_ble_eq_true rfl) (by decide) dX11_settles_1 rfl k) (fun _ M2 => ?_)
  refine E.m (h.aload_n 0 dX11_settles_4 rfl) ?_
  refine E.bnd (fun _ M4 => w M4 8 [(0, .ref t)] []) (fun _ M4 hf k => h.callV (As := []) (rest := []) (c_X11_rememberNow hW h0 hf) lm_X11_rememberNow lv_m_X11_rememberNow ll_RX11_402 h0 lc_11 rfl rfl (Nat.le_of_ble_eq_true rfl) (by decide) dX11_settles_5 rfl k) (fun _ M4 => ?_)
  refine E.m (h.aload_n 0 dX11_settles_8 rfl) ?_
  refine E.m (h.get h0 lf_RX11_91 dX11_settles_9 fv_11_35) ?_
  refine E.m (h.iconst (v := (0 : Int32)) dX11_settles_12 (by decide)) ?_
  refine E.m (h.aload_n 0 dX11_settles_13 rfl) ?_
  refine E.m (h.get h0 lf_RX11_59 dX11_settles_14 fv_11_8) ?_
  refine E.m (h.bipush (v := (8 : Int32)) dX11_settles_17 (by decide)) ?_
  refine E.m (h.ialdk (k := 8) (hW.clo 47 h0 rfl) (by decide) rfl dX11_settles_19) ?_
  refine E.m (h.iconst (v := (2 : Int32)) dX11_settles_20 (by decide)) ?_
  refine E.join1 (fun z5 => w M4 29 [(0, .ref t)] [.int z5, .int (0 : Int32), .ref (t + 17)]) (fun z5 => ?_) (fun J29 hJ29 => ?_)
  · refine E.m (h.iastk (k := 0) (hW.clo 56 h0 rfl) (by decide) rfl dX11_settles_29) ?_
    refine E.nmM (fun M6 => ?_)
    refine E.m (h.iconst (v := (0 : Int32)) dX11_settles_30 (by decide)) ?_
    refine E.m (h.istore_n dX11_settles_31 (by decide) rfl) ?_
    refine E.m (h.iconst (v := (1 : Int32)) dX11_settles_32 (by decide)) ?_
    refine E.m (h.istore_n dX11_settles_33 (by decide) rfl) ?_
    refine E.m (h.sub [2, 1, 0] rfl) ?_
    refine E.loop3 (fun k7 k8 M9 => w M9 34 [(0, .ref t), (1, .int k7), (2, .int k8)] []) (fun k7 k8 M9 => ?_) _ _ _ _
    unfold l_X11_settles_34
    refine E.m (h.iload_n 2 dX11_settles_34 rfl) ?_
    refine E.m (h.sipush (v := (440 : Int32)) dX11_settles_35 (by decide)) ?_
    refine E.br (fun k1 k2 => h.icmp_gt (tgt := 116) dX11_settles_38 (by decide) k1 k2) ?_ ?_
    · refine E.m (h.aload_n 0 dX11_settles_116 rfl) ?_
      refine E.m (h.iconst (v := (-1 : Int32)) dX11_settles_117 (by decide)) ?_
      refine E.bnd (fun u10 M11 => w M11 121 [(0, .ref t), (1, .int k7), (2, .int k8)] [.int u10]) (fun u10 M11 hf k => h.callV (As := [.int (-1 : Int32)]) (rest := []) (c_X11_back hW h0 hf) lm_X11_back lv_m_X11_back ll_RX11_405 h0 lc_11 rfl rfl (Nat.le_of_ble_eq_true rfl) (by decide) dX11_settles_118 rfl k) (fun u10 M11 => ?_)
      exact E.some (ret_i hr rfl dX11_settles_121)
    · refine E.m (h.aload_n 0 dX11_settles_41 rfl) ?_
      refine E.bnd (fun _ M13 => w M13 45 [(0, .ref t), (1, .int k7), (2, .int k8)] []) (fun _ M13 hf k => h.callV (As := []) (rest := []) (c_X11_aStep hW h0 hf) lm_X11_aStep lv_m_X11_aStep ll_RX11_349 h0 lc_11 rfl rfl (Nat.le_of_ble_eq_true rfl) (by decide) dX11_settles_42 rfl k) (fun _ M13 => ?_)
      refine E.m (h.aload_n 0 dX11_settles_45 rfl) ?_
      refine E.m (h.get h0 lf_RX11_91 dX11_settles_46 fv_11_35) ?_
      refine E.m (h.iload_n 2 dX11_settles_49 rfl) ?_
      refine E.m (h.aload_n 0 dX11_settles_50 rfl) ?_
      refine E.m (h.get h0 lf_RX11_59 dX11_settles_51 fv_11_8) ?_
      refine E.m (h.bipush (v := (8 : Int32)) dX11_settles_54 (by decide)) ?_
      refine E.m (h.ialdk (k := 8) (hW.clo 47 h0 rfl) (by decide) rfl dX11_settles_56) ?_
      refine E.m (h.iconst (v := (2 : Int32)) dX11_settles_57 (by decide)) ?_
      refine E.join1 (fun z14 => w M13 66 [(0, .ref t), (1, .int k7), (2, .int k8)] [.int z14, .int k8, .ref (t + 17)]) (fun z14 => ?_) (fun J66 hJ66 => ?_)
      · refine E.gi (fun hi k => h.iast (hW.clo 56 h0 rfl) hi dX11_settles_66 k) ?_
        refine E.nmM (fun M15 => ?_)
        refine E.m (h.aload_n 0 dX11_settles_67 rfl) ?_
        refine E.bnd (fun u16 M17 => w M17 71 [(0, .ref t), (1, .int k7), (2, .int k8)] [.int u16]) (fun u16 M17 hf k => h.callV (As := []) (rest := []) (c_X11_isNear hW h0 hf) lm_X11_isNear lv_m_X11_isNear ll_RX11_416 h0 lc_11 rfl rfl (Nat.le_of_ble_eq_true rfl) (by decide) dX11_settles_68 rfl k) (fun u16 M17 => ?_)
        refine E.join1 (fun z18 => w M17 81 [(0, .ref t), (1, .int k7), (2, .int k8)] [.int z18]) (fun z18 => ?_) (fun J81 hJ81 => ?_)
        · refine E.m (h.istore_n dX11_settles_81 (by decide) rfl) ?_
          refine E.m (h.iload_n 0 dX11_settles_82 rfl) ?_
          refine E.m (h.bipush (v := (40 : Int32)) dX11_settles_83 (by decide)) ?_
          refine E.join0 (fun _ => w M17 110 [(0, .ref t), (1, .int z18), (2, .int k8)] []) (fun _ => ?_) (fun J110 hJ110 => ?_)
          · refine E.m (h.iinc (v := (1 : Int32)) 2 dX11_settles_110 rfl (by decide) (by decide) rfl) ?_
            refine E.nmL (fun y19 => ?_)
            refine E.m (h.goto (tgt := 34) dX11_settles_113 (by decide)) ?_
            refine E.m (h.sub [1, 2, 0] rfl) ?_
            exact E.some (fun q => q)
          refine E.br (fun k1 k2 => h.icmp_lt (tgt := 110) dX11_settles_85 (by decide) k1 k2) ?_ ?_
          · refine E.m (h.sub [1, 0, 2] rfl) ?_
            exact hJ110 ()
          · refine E.m (h.aload_n 1 dX11_settles_88 rfl) ?_
            refine E.m (h.get h0 lf_RX11_91 dX11_settles_89 fv_11_35) ?_
            refine E.m (h.iload_n 2 dX11_settles_92 rfl) ?_
            refine E.m (h.bipush (v := (40 : Int32)) dX11_settles_93 (by decide)) ?_
            refine E.m (h.isub dX11_settles_95) ?_
            refine E.gi (fun hi k => h.iald (hW.clo 56 h0 rfl) hi dX11_settles_96 k) ?_
            refine E.m (h.iconst (v := (1 : Int32)) dX11_settles_97 (by decide)) ?_
            refine E.br (fun k1 k2 => h.icmp_ne (tgt := 110) dX11_settles_98 (by decide) k2 k1) ?_ ?_
            · refine E.m (h.aload_n 1 dX11_settles_101 rfl) ?_
              refine E.m (h.iload_n 2 dX11_settles_102 rfl) ?_
              refine E.m (h.bipush (v := (40 : Int32)) dX11_settles_103 (by decide)) ?_
              refine E.m (h.isub dX11_settles_105) ?_
              refine E.bnd (fun u20 M21 => w M21 109 [(1, .int z18), (0, .ref t), (2, .int k8)] [.int u20]) (fun u20 M21 hf k => h.callV (As := [.int (k8 - (40 : Int32))]) (rest := []) (c_X11_back hW h0 hf) lm_X11_back lv_m_X11_back ll_RX11_405 h0 lc_11 rfl rfl (Nat.le_of_ble_eq_true rfl) (by decide) dX11_settles_106 rfl k) (fun u20 M21 => ?_)
              exact E.some (ret_i hr rfl dX11_settles_109)
            · refine E.m (h.sub [1, 0, 2] rfl) ?_
              exact hJ110 ()
        refine E.br (fun k1 k2 => h.if_eq (tgt := 80) dX11_settles_71 (by decide) k1 k2) ?_ ?_
        · refine E.m (h.iconst (v := (0 : Int32)) dX11_settles_80 (by decide)) ?_
          exact hJ81 _
        · refine E.m (h.iload_n 1 dX11_settles_74 rfl) ?_
          refine E.m (h.iconst (v := (1 : Int32)) dX11_settles_75 (by decide)) ?_
          refine E.m (h.iadd dX11_settles_76) ?_
          refine E.m (h.goto (tgt := 81) dX11_settles_77 (by decide)) ?_
          exact hJ81 _
      refine E.br (fun k1 k2 => h.icmp_ne (tgt := 65) dX11_settles_58 (by decide) k2 k1) ?_ ?_
      · refine E.m (h.iconst (v := (1 : Int32)) dX11_settles_61 (by decide)) ?_
        refine E.m (h.goto (tgt := 66) dX11_settles_62 (by decide)) ?_
        exact hJ66 _
      · refine E.m (h.iconst (v := (0 : Int32)) dX11_settles_65 (by decide)) ?_
        exact hJ66 _
  refine E.br (fun k1 k2 => h.icmp_ne (tgt := 28) dX11_settles_21 (by decide) k2 k1) ?_ ?_
  · refine E.m (h.iconst (v := (1 : Int32)) dX11_settles_24 (by decide)) ?_
    refine E.m (h.goto (tgt := 29) dX11_settles_25 (by decide)) ?_
    exact hJ29 _
  · refine E.m (h.iconst (v := (0 : Int32)) dX11_settles_28 (by decide)) ?_
    exact hJ29 _
def f_X11_tryBest (t : Nat) (x1_ : Int32) (x2_ : Int32) (M : Mem) : Option (Unit × Mem) :=
  jn0 (fun _ => some ((), M)) (fun J21 => if x2_ = (-1 : Int32) then (J21 ()) else (jn0 (fun _ => nm (wi M t 36 x1_) (fun M1 => nm (wi M1 t 37 x2_) (fun M2 => some ((), M2)))) (fun J22 => if (M.1 t 36) = (-1 : Int32) then (J22 ()) else (if x2_ < (M.1 t 37) then (J22 ()) else (J21 ())))))
set_option maxRecDepth 20000 in
theorem c_X11_tryBest {G : Ctx} (hW : WFG G) {t : Nat} {x1_ : Int32} {x2_ : Int32} {M M' : Mem} (h0 : hs G t (0, 11)) (hf : f_X11_tryBest t x1_ x2_ M = some ((), M')) : Ct G yX11_tryBest cX11_tryBest 3 none 0 0 [.ref t, .int x1_, .int x2_] M none M' := by
  refine ct_v hW (by decide +kernel) (Nat.le_of_ble_eq_true rfl) (fun w h hr => ?_)
  have h : Rb G cX11_tryBest RX11 3 0 0 w := h
  refine (?_ : E (fun q => q = ((), M')) (f_X11_tryBest t x1_ x2_ M) (w M 0 [(0, .ref t), (1, .int x1_), (2, .int x2_)] [])) _ hf rfl
  unfold f_X11_tryBest
  refine E.m (h.iload_n 2 dX11_tryBest_0 rfl) ?_
  refine E.m (h.iconst (v := (-1 : Int32)) dX11_tryBest_1 (by decide)) ?_
  refine E.join0 (fun _ => w M 21 [(0, .ref t), (1, .int x1_), (2, .int x2_)] []) (fun _ => ?_) (fun J21 hJ21 => ?_)
  · exact E.some (ret_v hr dX11_tryBest_21)
  refine E.br (fun k1 k2 => h.icmp_eq (tgt := 21) dX11_tryBest_2 (by decide) k1 k2) ?_ ?_
  · exact hJ21 ()
  · refine E.m (h.aload_n 0 dX11_tryBest_5 rfl) ?_
    refine E.m (h.get h0 lf_RX11_419 dX11_tryBest_6 fv_11_36) ?_
    refine E.m (h.iconst (v := (-1 : Int32)) dX11_tryBest_9 (by decide)) ?_
    refine E.join0 (fun _ => w M 22 [(0, .ref t), (1, .int x1_), (2, .int x2_)] []) (fun _ => ?_) (fun J22 hJ22 => ?_)
    · refine E.m (h.aload_n 0 dX11_tryBest_22 rfl) ?_
      refine E.m (h.iload_n 1 dX11_tryBest_23 rfl) ?_
      refine E.m (h.puti h0 lp_RX11_419 rfl dX11_tryBest_24) ?_
      refine E.nmM (fun M1 => ?_)
      refine E.m (h.aload_n 0 dX11_tryBest_27 rfl) ?_
      refine E.m (h.iload_n 2 dX11_tryBest_28 rfl) ?_
      refine E.m (h.puti h0 lp_RX11_422 rfl dX11_tryBest_29) ?_
      refine E.nmM (fun M2 => ?_)
      exact E.some (ret_v hr dX11_tryBest_32)
    refine E.br (fun k1 k2 => h.icmp_eq (tgt := 22) dX11_tryBest_10 (by decide) k1 k2) ?_ ?_
    · exact hJ22 ()
    · refine E.m (h.iload_n 2 dX11_tryBest_13 rfl) ?_
      refine E.m (h.aload_n 0 dX11_tryBest_14 rfl) ?_
      refine E.m (h.get h0 lf_RX11_422 dX11_tryBest_15 fv_11_37) ?_
      refine E.br (fun k1 k2 => h.icmp_lt (tgt := 22) dX11_tryBest_18 (by decide) k1 k2) ?_ ?_
      · exact hJ22 ()
      · exact hJ21 ()
def l_X11_toAim_49 (t : Nat) (x1_ : Int32) (x2_ : Int32) (k10 : Int32) (M11 : Mem) : Option ((Int32 × Mem) ⊕ (Int32 × Mem)) :=
  if (64 : Int32) < k10 then (jn1 (fun z12 => some (.inr (z12, M11))) (fun J119 => if x2_ = 0 then (J119 (M11.1 t 36)) else (J119 (M11.1 t 37)))) else (nm (wi M11 (t + 8) 29 k10) (fun M13 => bd (f_X11_goOn t x1_ M13) (fun _ M15 => nm ((M15.1 (t + 8) 7) - (M15.1 (t + 16) 7)) (fun y16 => bd (f_X11_back t (0 : Int32) M15) (fun u17 M18 => bd (f_X11_tryBest t k10 y16 M18) (fun _ M20 => nm (k10 + (1 : Int32)) (fun y21 => some (.inl (y21, M20)))))))))
def f_X11_toAim (t : Nat) (x1_ : Int32) (x2_ : Int32) (M : Mem) : Option (Int32 × Mem) :=
  bd (f_X11_ready t M) (fun _ M2 => bd (f_X11_isIn x2_.toInt64 (0 : Int64) (1 : Int64) M2) (fun u3 M4 => if u3 = 0 then (bd (f_X11_fail t (1 : Int32) M4) (fun u24 M25 => some (u24, M25))) else (bd (f_X11_isIn x1_.toInt64 (1 : Int64) (400 : Int64) M4) (fun u5 M6 => if u5 = 0 then (bd (f_X11_fail t (2 : Int32) M6) (fun u22 M23 => some (u22, M23))) else (nm (wi M6 t 36 (-1 : Int32)) (fun M7 => bd (f_X11_rememberNow t M7) (fun _ M9 => lop2 FU (l_X11_toAim_49 t x1_ x2_) (1 : Int32) M9)))))))
set_option maxRecDepth 20000 in
theorem c_X11_toAim {G : Ctx} (hW : WFG G) {t : Nat} {x1_ : Int32} {x2_ : Int32} {M M' : Mem} {r : Int32} (h0 : hs G t (0, 11)) (hf : f_X11_toAim t x1_ x2_ M = some (r, M')) : Ct G yX11_toAim cX11_toAim 5 (some .int) 8 175 [.ref t, .int x1_, .int x2_] M (some (.int r)) M' := by
  refine ct_i hW (by decide +kernel) (Nat.le_of_ble_eq_true rfl) (fun w h hr => ?_)
  have h : Rb G cX11_toAim RX11 5 8 175 w := h
  refine (?_ : E (fun q => q = (r, M')) (f_X11_toAim t x1_ x2_ M) (w M 0 [(0, .ref t), (1, .int x1_), (2, .int x2_)] [])) _ hf rfl
  unfold f_X11_toAim
  refine E.m (h.aload_n 0 dX11_toAim_0 rfl) ?_
  refine E.bnd (fun _ M2 => w M2 4 [(0, .ref t), (1, .int x1_), (2, .int x2_)] []) (fun _ M2 hf k => h.callV (As := []) (rest := []) (c_X11_ready hW h0 hf) lm_X11_ready lv_m_X11_ready ll_RX11_247 h0 lc_11 rfl rfl (Nat.le_of_ble_eq_true rfl) (by decide) dX11_toAim_1 rfl k) (fun _ M2 => ?_)
  refine E.m (h.iload_n 2 dX11_toAim_4 rfl) ?_
  refine E.m (h.i2l dX11_toAim_5) ?_
  refine E.m (h.lconst (v := (0 : Int64)) dX11_toAim_6 (by decide)) ?_
  refine E.m (h.lconst (v := (1 : Int64)) dX11_toAim_7 (by decide)) ?_
  refine E.bnd (fun u3 M4 => w M4 11 [(0, .ref t), (1, .int x1_), (2, .int x2_)] [.int u3]) (fun u3 M4 hf k => h.callS (As := [.long x2_.toInt64, .long (0 : Int64), .long (1 : Int64)]) (rest := []) (c_X11_isIn hW hf) lm_X11_isIn ls_m_X11_isIn ll_RX11_358 rfl rfl (Nat.le_of_ble_eq_true rfl) (by decide) dX11_toAim_8 rfl k) (fun u3 M4 => ?_)
  refine E.br (fun k1 k2 => h.if_ne (tgt := 20) dX11_toAim_11 (by decide) k2 k1) ?_ ?_
  · refine E.m (h.aload_n 0 dX11_toAim_14 rfl) ?_
    refine E.m (h.iconst (v := (1 : Int32)) dX11_toAim_15 (by decide)) ?_
    refine E.bnd (fun u24 M25 => w M25 19 [(0, .ref t), (1, .int x1_), (2, .int x2_)] [.int u24]) (fun u24 M25 hf k => h.callV (As := [.int (1 : Int32)]) (rest := []) (c_X11_fail hW h0 hf) lm_X11_fail lv_m_X11_fail ll_RX11_250 h0 lc_11 rfl rfl (Nat.le_of_ble_eq_true rfl) (by decide) dX11_toAim_16 rfl k) (fun u24 M25 => ?_)
    exact E.some (ret_i hr rfl dX11_toAim_19)
  · refine E.m (h.iload_n 1 dX11_toAim_20 rfl) ?_
    refine E.m (h.i2l dX11_toAim_21) ?_
    refine E.m (h.lconst (v := (1 : Int64)) dX11_toAim_22 (by decide)) ?_
    refine E.m (h.ldc2 lj_RX11_400 dX11_toAim_23) ?_
    refine E.bnd (fun u5 M6 => w M6 29 [(0, .ref t), (1, .int x1_), (2, .int x2_)] [.int u5]) (fun u5 M6 hf k => h.callS (As := [.long x1_.toInt64, .long (1 : Int64), .long (400 : Int64)]) (rest := []) (c_X11_isIn hW hf) lm_X11_isIn ls_m_X11_isIn ll_RX11_358 rfl rfl (Nat.le_of_ble_eq_true rfl) (by decide) dX11_toAim_26 rfl k) (fun u5 M6 => ?_)
    refine E.br (fun k1 k2 => h.if_ne (tgt := 38) dX11_toAim_29 (by decide) k2 k1) ?_ ?_
    · refine E.m (h.aload_n 0 dX11_toAim_32 rfl) ?_
      refine E.m (h.iconst (v := (2 : Int32)) dX11_toAim_33 (by decide)) ?_
      refine E.bnd (fun u22 M23 => w M23 37 [(0, .ref t), (1, .int x1_), (2, .int x2_)] [.int u22]) (fun u22 M23 hf k => h.callV (As := [.int (2 : Int32)]) (rest := []) (c_X11_fail hW h0 hf) lm_X11_fail lv_m_X11_fail ll_RX11_250 h0 lc_11 rfl rfl (Nat.le_of_ble_eq_true rfl) (by decide) dX11_toAim_34 rfl k) (fun u22 M23 => ?_)
      exact E.some (ret_i hr rfl dX11_toAim_37)
    · refine E.m (h.aload_n 0 dX11_toAim_38 rfl) ?_
      refine E.m (h.iconst (v := (-1 : Int32)) dX11_toAim_39 (by decide)) ?_
      refine E.m (h.puti h0 lp_RX11_419 rfl dX11_toAim_40) ?_
      refine E.nmM (fun M7 => ?_)
      refine E.m (h.aload_n 0 dX11_toAim_43 rfl) ?_
      refine E.bnd (fun _ M9 => w M9 47 [(0, .ref t), (1, .int x1_), (2, .int x2_)] []) (fun _ M9 hf k => h.callV (As := []) (rest := []) (c_X11_rememberNow hW h0 hf) lm_X11_rememberNow lv_m_X11_rememberNow ll_RX11_402 h0 lc_11 rfl rfl (Nat.le_of_ble_eq_true rfl) (by decide) dX11_toAim_44 rfl k) (fun _ M9 => ?_)
      refine E.m (h.iconst (v := (1 : Int32)) dX11_toAim_47 (by decide)) ?_
      refine E.m (h.istore_n dX11_toAim_48 (by decide) rfl) ?_
      refine E.m (h.sub [1, 2, 3, 0] rfl) ?_
      refine E.loop2 (fun k10 M11 => w M11 49 [(0, .ref t), (1, .int x1_), (2, .int x2_), (3, .int k10)] []) (fun k10 M11 => ?_) _ _ _
      unfold l_X11_toAim_49
      refine E.m (h.iload_n 3 dX11_toAim_49 rfl) ?_
      refine E.m (h.bipush (v := (64 : Int32)) dX11_toAim_50 (by decide)) ?_
      refine E.br (fun k1 k2 => h.icmp_gt (tgt := 104) dX11_toAim_52 (by decide) k1 k2) ?_ ?_
      · refine E.m (h.iload_n 2 dX11_toAim_104 rfl) ?_
        refine E.join1 (fun z12 => w M11 119 [(0, .ref t), (1, .int x1_), (2, .int x2_), (3, .int k10)] [.int z12]) (fun z12 => ?_) (fun J119 hJ119 => ?_)
        · exact E.some (ret_i hr rfl dX11_toAim_119)
        refine E.br (fun k1 k2 => h.if_ne (tgt := 115) dX11_toAim_105 (by decide) k2 k1) ?_ ?_
        · refine E.m (h.aload_n 0 dX11_toAim_108 rfl) ?_
          refine E.m (h.get h0 lf_RX11_419 dX11_toAim_109 fv_11_36) ?_
          refine E.m (h.goto (tgt := 119) dX11_toAim_112 (by decide)) ?_
          exact hJ119 _
        · refine E.m (h.aload_n 0 dX11_toAim_115 rfl) ?_
          refine E.m (h.get h0 lf_RX11_422 dX11_toAim_116 fv_11_37) ?_
          exact hJ119 _
      · refine E.m (h.aload_n 0 dX11_toAim_55 rfl) ?_
        refine E.m (h.get h0 lf_RX11_59 dX11_toAim_56 fv_11_8) ?_
        refine E.m (h.bipush (v := (29 : Int32)) dX11_toAim_59 (by decide)) ?_
        refine E.m (h.iload_n 3 dX11_toAim_61 rfl) ?_
        refine E.m (h.iastk (k := 29) (hW.clo 47 h0 rfl) (by decide) rfl dX11_toAim_62) ?_
        refine E.nmM (fun M13 => ?_)
        refine E.m (h.aload_n 0 dX11_toAim_63 rfl) ?_
        refine E.m (h.iload_n 1 dX11_toAim_64 rfl) ?_
        refine E.bnd (fun _ M15 => w M15 68 [(0, .ref t), (1, .int x1_), (2, .int x2_), (3, .int k10)] []) (fun _ M15 hf k => h.callV (As := [.int x1_]) (rest := []) (c_X11_goOn hW h0 hf) lm_X11_goOn lv_m_X11_goOn ll_RX11_387 h0 lc_11 rfl rfl (Nat.le_of_ble_eq_true rfl) (by decide) dX11_toAim_65 rfl k) (fun _ M15 => ?_)
        refine E.m (h.aload_n 0 dX11_toAim_68 rfl) ?_
        refine E.m (h.get h0 lf_RX11_59 dX11_toAim_69 fv_11_8) ?_
        refine E.m (h.bipush (v := (7 : Int32)) dX11_toAim_72 (by decide)) ?_
        refine E.m (h.ialdk (k := 7) (hW.clo 47 h0 rfl) (by decide) rfl dX11_toAim_74) ?_
        refine E.m (h.aload_n 0 dX11_toAim_75 rfl) ?_
        refine E.m (h.get h0 lf_RX11_88 dX11_toAim_76 fv_11_34) ?_
        refine E.m (h.bipush (v := (7 : Int32)) dX11_toAim_79 (by decide)) ?_
        refine E.m (h.ialdk (k := 7) (hW.clo 55 h0 rfl) (by decide) rfl dX11_toAim_81) ?_
        refine E.m (h.isub dX11_toAim_82) ?_
        refine E.m (h.istore dX11_toAim_83 (by decide) rfl) ?_
        refine E.nmL (fun y16 => ?_)
        refine E.m (h.aload_n 1 dX11_toAim_85 rfl) ?_
        refine E.m (h.iconst (v := (0 : Int32)) dX11_toAim_86 (by decide)) ?_
        refine E.bnd (fun u17 M18 => w M18 90 [(4, .int y16), (0, .ref t), (1, .int x1_), (2, .int x2_), (3, .int k10)] [.int u17]) (fun u17 M18 hf k => h.callV (As := [.int (0 : Int32)]) (rest := []) (c_X11_back hW h0 hf) lm_X11_back lv_m_X11_back ll_RX11_405 h0 lc_11 rfl rfl (Nat.le_of_ble_eq_true rfl) (by decide) dX11_toAim_87 rfl k) (fun u17 M18 => ?_)
        refine E.m (h.pop dX11_toAim_90 rfl) ?_
        refine E.m (h.aload_n 1 dX11_toAim_91 rfl) ?_
        refine E.m (h.iload_n 4 dX11_toAim_92 rfl) ?_
        refine E.m (h.iload 0 dX11_toAim_93 rfl) ?_
        refine E.bnd (fun _ M20 => w M20 98 [(4, .int y16), (0, .ref t), (1, .int x1_), (2, .int x2_), (3, .int k10)] []) (fun _ M20 hf k => h.callV (As := [.int k10, .int y16]) (rest := []) (c_X11_tryBest hW h0 hf) lm_X11_tryBest lv_m_X11_tryBest ll_RX11_425 h0 lc_11 rfl rfl (Nat.le_of_ble_eq_true rfl) (by decide) dX11_toAim_95 rfl k) (fun _ M20 => ?_)
        refine E.m (h.iinc (v := (1 : Int32)) 4 dX11_toAim_98 rfl (by decide) (by decide) rfl) ?_
        refine E.nmL (fun y21 => ?_)
        refine E.m (h.goto (tgt := 49) dX11_toAim_101 (by decide)) ?_
        refine E.m (h.sub [2, 3, 4, 0] rfl) ?_
        exact E.some (fun q => q)
def l_X11_farOff_4 (t : Nat) (x1_ : Int32) (k1 : Int32) (k2 : Int32) (M3 : Mem) : Option ((Int32 × Int32 × Mem) ⊕ (Int32 × Mem)) :=
  if x1_ ≤ k2 then (bd (f_X11_back t k1 M3) (fun u4 M5 => some (.inr (u4, M5)))) else (bd (f_X11_aStep t M3) (fun _ M7 => jn2 (fun z8 M9 => nm (k2 + (1 : Int32)) (fun y10 => some (.inl (z8, y10, M9)))) (fun J44 => if (M7.1 (t + 8) 8) = (2 : Int32) then (bd (f_X11_levelNow t M7) (fun u11 M12 => bd (f_J9_abs_0f7a4 (u11 - (M12.1 (t + 8) 29)) M12) (fun u13 M14 => bd (f_J9_max_7cf53 k1 u13 M14) (fun u15 M16 => J44 u15 M16)))) else (J44 k1 M7))))
def f_X11_farOff (t : Nat) (x1_ : Int32) (M : Mem) : Option (Int32 × Mem) :=
  lop3 FU (l_X11_farOff_4 t x1_) (-1 : Int32) (0 : Int32) M
set_option maxRecDepth 20000 in
theorem c_X11_farOff {G : Ctx} (hW : WFG G) {t : Nat} {x1_ : Int32} {M M' : Mem} {r : Int32} (h0 : hs G t (0, 11)) (hf : f_X11_farOff t x1_ M = some (r, M')) : Ct G yX11_farOff cX11_farOff 4 (some .int) 7 153 [.ref t, .int x1_] M (some (.int r)) M' := by
  refine ct_i hW (by decide +kernel) (Nat.le_of_ble_eq_true rfl) (fun w h hr => ?_)
  have h : Rb G cX11_farOff RX11 4 7 153 w := h
  refine (?_ : E (fun q => q = (r, M')) (f_X11_farOff t x1_ M) (w M 0 [(0, .ref t), (1, .int x1_)] [])) _ hf rfl
  unfold f_X11_farOff
  refine E.m (h.iconst (v := (-1 : Int32)) dX11_farOff_0 (by decide)) ?_
  refine E.m (h.istore_n dX11_farOff_1 (by decide) rfl) ?_
  refine E.m (h.iconst (v := (0 : Int32)) dX11_farOff_2 (by decide)) ?_
  refine E.m (h.istore_n dX11_farOff_3 (by decide) rfl) ?_
  refine E.m (h.sub [2, 3, 1, 0] rfl) ?_
  refine E.loop3 (fun k1 k2 M3 => w M3 4 [(0, .ref t), (1, .int x1_), (2, .int k1), (3, .int k2)] []) (fun k1 k2 M3 => ?_) _ _ _ _
  unfold l_X11_farOff_4
  refine E.m (h.iload_n 3 dX11_farOff_4 rfl) ?_
  refine E.m (h.iload_n 1 dX11_farOff_5 rfl) ?_
  refine E.br (fun k1 k2 => h.icmp_ge (tgt := 50) dX11_farOff_6 (by decide) k1 k2) ?_ ?_
  · refine E.m (h.aload_n 0 dX11_farOff_50 rfl) ?_
    refine E.m (h.iload_n 2 dX11_farOff_51 rfl) ?_
    refine E.bnd (fun u4 M5 => w M5 55 [(0, .ref t), (1, .int x1_), (2, .int k1), (3, .int k2)] [.int u4]) (fun u4 M5 hf k => h.callV (As := [.int k1]) (rest := []) (c_X11_back hW h0 hf) lm_X11_back lv_m_X11_back ll_RX11_405 h0 lc_11 rfl rfl (Nat.le_of_ble_eq_true rfl) (by decide) dX11_farOff_52 rfl k) (fun u4 M5 => ?_)
    exact E.some (ret_i hr rfl dX11_farOff_55)
  · refine E.m (h.aload_n 0 dX11_farOff_9 rfl) ?_
    refine E.bnd (fun _ M7 => w M7 13 [(0, .ref t), (1, .int x1_), (2, .int k1), (3, .int k2)] []) (fun _ M7 hf k => h.callV (As := []) (rest := []) (c_X11_aStep hW h0 hf) lm_X11_aStep lv_m_X11_aStep ll_RX11_349 h0 lc_11 rfl rfl (Nat.le_of_ble_eq_true rfl) (by decide) dX11_farOff_10 rfl k) (fun _ M7 => ?_)
    refine E.m (h.aload_n 0 dX11_farOff_13 rfl) ?_
    refine E.m (h.get h0 lf_RX11_59 dX11_farOff_14 fv_11_8) ?_
    refine E.m (h.bipush (v := (8 : Int32)) dX11_farOff_17 (by decide)) ?_
    refine E.m (h.ialdk (k := 8) (hW.clo 47 h0 rfl) (by decide) rfl dX11_farOff_19) ?_
    refine E.m (h.iconst (v := (2 : Int32)) dX11_farOff_20 (by decide)) ?_
    refine E.join2 (fun z8 M9 => w M9 44 [(0, .ref t), (1, .int x1_), (2, .int z8), (3, .int k2)] []) (fun z8 M9 => ?_) (fun J44 hJ44 => ?_)
    · refine E.m (h.iinc (v := (1 : Int32)) 3 dX11_farOff_44 rfl (by decide) (by decide) rfl) ?_
      refine E.nmL (fun y10 => ?_)
      refine E.m (h.goto (tgt := 4) dX11_farOff_47 (by decide)) ?_
      refine E.m (h.sub [1, 2, 3, 0] rfl) ?_
      exact E.some (fun q => q)
    refine E.br (fun k1 k2 => h.icmp_ne (tgt := 44) dX11_farOff_21 (by decide) k2 k1) ?_ ?_
    · refine E.m (h.iload_n 2 dX11_farOff_24 rfl) ?_
      refine E.m (h.aload_n 0 dX11_farOff_25 rfl) ?_
      refine E.bnd (fun u11 M12 => w M12 29 [(0, .ref t), (1, .int x1_), (2, .int k1), (3, .int k2)] [.int u11, .int k1]) (fun u11 M12 hf k => h.callV (As := []) (rest := [.int k1]) (c_X11_levelNow hW h0 hf) lm_X11_levelNow lv_m_X11_levelNow ll_RX11_325 h0 lc_11 rfl rfl (Nat.le_of_ble_eq_true rfl) (by decide) dX11_farOff_26 rfl k) (fun u11 M12 => ?_)
      refine E.m (h.aload_n 0 dX11_farOff_29 rfl) ?_
      refine E.m (h.get h0 lf_RX11_59 dX11_farOff_30 fv_11_8) ?_
      refine E.m (h.bipush (v := (29 : Int32)) dX11_farOff_33 (by decide)) ?_
      refine E.m (h.ialdk (k := 29) (hW.clo 47 h0 rfl) (by decide) rfl dX11_farOff_35) ?_
      refine E.m (h.isub dX11_farOff_36) ?_
      refine E.bnd (fun u13 M14 => w M14 40 [(0, .ref t), (1, .int x1_), (2, .int k1), (3, .int k2)] [.int u13, .int k1]) (fun u13 M14 hf k => h.callS (As := [.int (u11 - (M12.1 (t + 8) 29))]) (rest := [.int k1]) (c_J9_abs_0f7a4 hW hf) lm_J9_abs_0f7a4 ls_m_J9_abs_0f7a4 ll_RX11_413 rfl rfl (Nat.le_of_ble_eq_true rfl) (by decide) dX11_farOff_37 rfl k) (fun u13 M14 => ?_)
      refine E.bnd (fun u15 M16 => w M16 43 [(0, .ref t), (1, .int x1_), (2, .int k1), (3, .int k2)] [.int u15]) (fun u15 M16 hf k => h.callS (As := [.int k1, .int u13]) (rest := []) (c_J9_max_7cf53 hW hf) lm_J9_max_7cf53 ls_m_J9_max_7cf53 ll_RX11_130 rfl rfl (Nat.le_of_ble_eq_true rfl) (by decide) dX11_farOff_40 rfl k) (fun u15 M16 => ?_)
      refine E.m (h.istore_n dX11_farOff_43 (by decide) rfl) ?_
      refine E.m (h.sub [1, 2, 0, 3] rfl) ?_
      exact hJ44 _ _
    · exact hJ44 _ _
def l_X11_toGain_82 (t : Nat) (x1_ : Int32) (M19 : Mem) : Option ((Mem) ⊕ ((Mem) ⊕ (Int32 × Mem))) :=
  if (3 : Int32) < (M19.1 t 25) then (nm (wi M19 t 24 ((M19.1 t 24) + (1 : Int32))) (fun M20 => some (.inr (.inl M20)))) else (bd (f_X11_farOff t x1_ M19) (fun u21 M22 => bd (f_X11_tryBest t (((10 : Int32) * (M19.1 t 24)) + (M19.1 t 25)) u21 M22) (fun _ M24 => nm (wi M24 t 25 ((M24.1 t 25) + (1 : Int32))) (fun M25 => some (.inl M25)))))
def l_X11_toGain_68 (t : Nat) (x1_ : Int32) (x2_ : Int32) (y7 : Int32) (y8 : Int32) (M14 : Mem) : Option ((Mem) ⊕ (Int32 × Mem)) :=
  if (9 : Int32) < (M14.1 t 24) then (nm (wi M14 t 24 y7) (fun M15 => nm (wi M15 t 25 y8) (fun M16 => jn1 (fun z17 => some (.inr (z17, M16))) (fun J163 => if x2_ = 0 then (J163 (M16.1 t 36)) else (J163 (M16.1 t 37)))))) else (nm (wi M14 t 25 (0 : Int32)) (fun M18 => lop1 FU (l_X11_toGain_82 t x1_) M18))
def f_X11_toGain (t : Nat) (x1_ : Int32) (x2_ : Int32) (M : Mem) : Option (Int32 × Mem) :=
  bd (f_X11_ready t M) (fun _ M2 => bd (f_X11_isIn x2_.toInt64 (0 : Int64) (1 : Int64) M2) (fun u3 M4 => if u3 = 0 then (bd (f_X11_fail t (1 : Int32) M4) (fun u28 M29 => some (u28, M29))) else (bd (f_X11_isIn x1_.toInt64 (1 : Int64) (400 : Int64) M4) (fun u5 M6 => if u5 = 0 then (bd (f_X11_fail t (2 : Int32) M6) (fun u26 M27 => some (u26, M27))) else (nm (M6.1 t 24) (fun y7 => nm (M6.1 t 25) (fun y8 => nm (wi M6 t 36 (-1 : Int32)) (fun M9 => nm (wi M9 t 37 (-1 : Int32)) (fun M10 => bd (f_X11_rememberNow t M10) (fun _ M12 => nm (wi M12 t 24 (0 : Int32)) (fun M13 => lop1 FU (l_X11_toGain_68 t x1_ x2_ y7 y8) M13)))))))))))
set_option maxRecDepth 20000 in
theorem c_X11_toGain {G : Ctx} (hW : WFG G) {t : Nat} {x1_ : Int32} {x2_ : Int32} {M M' : Mem} {r : Int32} (h0 : hs G t (0, 11)) (hf : f_X11_toGain t x1_ x2_ M = some (r, M')) : Ct G yX11_toGain cX11_toGain 5 (some .int) 8 176 [.ref t, .int x1_, .int x2_] M (some (.int r)) M' := by
  refine ct_i hW (by decide +kernel) (Nat.le_of_ble_eq_true rfl) (fun w h hr => ?_)
  have h : Rb G cX11_toGain RX11 5 8 176 w := h
  refine (?_ : E (fun q => q = (r, M')) (f_X11_toGain t x1_ x2_ M) (w M 0 [(0, .ref t), (1, .int x1_), (2, .int x2_)] [])) _ hf rfl
  unfold f_X11_toGain
  refine E.m (h.aload_n 0 dX11_toGain_0 rfl) ?_
  refine E.bnd (fun _ M2 => w M2 4 [(0, .ref t), (1, .int x1_), (2, .int x2_)] []) (fun _ M2 hf k => h.callV (As := []) (rest := []) (c_X11_ready hW h0 hf) lm_X11_ready lv_m_X11_ready ll_RX11_247 h0 lc_11 rfl rfl (Nat.le_of_ble_eq_true rfl) (by decide) dX11_toGain_1 rfl k) (fun _ M2 => ?_)
  refine E.m (h.iload_n 2 dX11_toGain_4 rfl) ?_
  refine E.m (h.i2l dX11_toGain_5) ?_
  refine E.m (h.lconst (v := (0 : Int64)) dX11_toGain_6 (by decide)) ?_
  refine E.m (h.lconst (v := (1 : Int64)) dX11_toGain_7 (by decide)) ?_
  refine E.bnd (fun u3 M4 => w M4 11 [(0, .ref t), (1, .int x1_), (2, .int x2_)] [.int u3]) (fun u3 M4 hf k => h.callS (As := [.long x2_.toInt64, .long (0 : Int64), .long (1 : Int64)]) (rest := []) (c_X11_isIn hW hf) lm_X11_isIn ls_m_X11_isIn ll_RX11_358 rfl rfl (Nat.le_of_ble_eq_true rfl) (by decide) dX11_toGain_8 rfl k) (fun u3 M4 => ?_)
  refine E.br (fun k1 k2 => h.if_ne (tgt := 20) dX11_toGain_11 (by decide) k2 k1) ?_ ?_
  · refine E.m (h.aload_n 0 dX11_toGain_14 rfl) ?_
    refine E.m (h.iconst (v := (1 : Int32)) dX11_toGain_15 (by decide)) ?_
    refine E.bnd (fun u28 M29 => w M29 19 [(0, .ref t), (1, .int x1_), (2, .int x2_)] [.int u28]) (fun u28 M29 hf k => h.callV (As := [.int (1 : Int32)]) (rest := []) (c_X11_fail hW h0 hf) lm_X11_fail lv_m_X11_fail ll_RX11_250 h0 lc_11 rfl rfl (Nat.le_of_ble_eq_true rfl) (by decide) dX11_toGain_16 rfl k) (fun u28 M29 => ?_)
    exact E.some (ret_i hr rfl dX11_toGain_19)
  · refine E.m (h.iload_n 1 dX11_toGain_20 rfl) ?_
    refine E.m (h.i2l dX11_toGain_21) ?_
    refine E.m (h.lconst (v := (1 : Int64)) dX11_toGain_22 (by decide)) ?_
    refine E.m (h.ldc2 lj_RX11_400 dX11_toGain_23) ?_
    refine E.bnd (fun u5 M6 => w M6 29 [(0, .ref t), (1, .int x1_), (2, .int x2_)] [.int u5]) (fun u5 M6 hf k => h.callS (As := [.long x1_.toInt64, .long (1 : Int64), .long (400 : Int64)]) (rest := []) (c_X11_isIn hW hf) lm_X11_isIn ls_m_X11_isIn ll_RX11_358 rfl rfl (Nat.le_of_ble_eq_true rfl) (by decide) dX11_toGain_26 rfl k) (fun u5 M6 => ?_)
    refine E.br (fun k1 k2 => h.if_ne (tgt := 38) dX11_toGain_29 (by decide) k2 k1) ?_ ?_
    · refine E.m (h.aload_n 0 dX11_toGain_32 rfl) ?_
      refine E.m (h.iconst (v := (2 : Int32)) dX11_toGain_33 (by decide)) ?_
      refine E.bnd (fun u26 M27 => w M27 37 [(0, .ref t), (1, .int x1_), (2, .int x2_)] [.int u26]) (fun u26 M27 hf k => h.callV (As := [.int (2 : Int32)]) (rest := []) (c_X11_fail hW h0 hf) lm_X11_fail lv_m_X11_fail ll_RX11_250 h0 lc_11 rfl rfl (Nat.le_of_ble_eq_true rfl) (by decide) dX11_toGain_34 rfl k) (fun u26 M27 => ?_)
      exact E.some (ret_i hr rfl dX11_toGain_37)
    · refine E.m (h.aload_n 0 dX11_toGain_38 rfl) ?_
      refine E.m (h.get h0 lf_RX11_266 dX11_toGain_39 fv_11_24) ?_
      refine E.m (h.istore_n dX11_toGain_42 (by decide) rfl) ?_
      refine E.nmL (fun y7 => ?_)
      refine E.m (h.aload_n 1 dX11_toGain_43 rfl) ?_
      refine E.m (h.get h0 lf_RX11_269 dX11_toGain_44 fv_11_25) ?_
      refine E.m (h.istore dX11_toGain_47 (by decide) rfl) ?_
      refine E.nmL (fun y8 => ?_)
      refine E.m (h.aload_n 2 dX11_toGain_49 rfl) ?_
      refine E.m (h.iconst (v := (-1 : Int32)) dX11_toGain_50 (by decide)) ?_
      refine E.m (h.puti h0 lp_RX11_419 rfl dX11_toGain_51) ?_
      refine E.nmM (fun M9 => ?_)
      refine E.m (h.aload_n 2 dX11_toGain_54 rfl) ?_
      refine E.m (h.iconst (v := (-1 : Int32)) dX11_toGain_55 (by decide)) ?_
      refine E.m (h.puti h0 lp_RX11_422 rfl dX11_toGain_56) ?_
      refine E.nmM (fun M10 => ?_)
      refine E.m (h.aload_n 2 dX11_toGain_59 rfl) ?_
      refine E.bnd (fun _ M12 => w M12 63 [(4, .int y8), (3, .int y7), (0, .ref t), (1, .int x1_), (2, .int x2_)] []) (fun _ M12 hf k => h.callV (As := []) (rest := []) (c_X11_rememberNow hW h0 hf) lm_X11_rememberNow lv_m_X11_rememberNow ll_RX11_402 h0 lc_11 rfl rfl (Nat.le_of_ble_eq_true rfl) (by decide) dX11_toGain_60 rfl k) (fun _ M12 => ?_)
      refine E.m (h.aload_n 2 dX11_toGain_63 rfl) ?_
      refine E.m (h.iconst (v := (0 : Int32)) dX11_toGain_64 (by decide)) ?_
      refine E.m (h.puti h0 lp_RX11_266 rfl dX11_toGain_65) ?_
      refine E.nmM (fun M13 => ?_)
      refine E.m (h.sub [2, 3, 4, 1, 0] rfl) ?_
      refine E.loop1 (fun M14 => w M14 68 [(0, .ref t), (1, .int x1_), (2, .int x2_), (3, .int y7), (4, .int y8)] []) (fun M14 => ?_) _ _
      unfold l_X11_toGain_68
      refine E.m (h.aload_n 0 dX11_toGain_68 rfl) ?_
      refine E.m (h.get h0 lf_RX11_266 dX11_toGain_69 fv_11_24) ?_
      refine E.m (h.bipush (v := (9 : Int32)) dX11_toGain_72 (by decide)) ?_
      refine E.br (fun k1 k2 => h.icmp_gt (tgt := 137) dX11_toGain_74 (by decide) k1 k2) ?_ ?_
      · refine E.m (h.aload_n 0 dX11_toGain_137 rfl) ?_
        refine E.m (h.iload_n 3 dX11_toGain_138 rfl) ?_
        refine E.m (h.puti h0 lp_RX11_266 rfl dX11_toGain_139) ?_
        refine E.nmM (fun M15 => ?_)
        refine E.m (h.aload_n 0 dX11_toGain_142 rfl) ?_
        refine E.m (h.iload 4 dX11_toGain_143 rfl) ?_
        refine E.m (h.puti h0 lp_RX11_269 rfl dX11_toGain_145) ?_
        refine E.nmM (fun M16 => ?_)
        refine E.m (h.iload_n 2 dX11_toGain_148 rfl) ?_
        refine E.join1 (fun z17 => w M16 163 [(0, .ref t), (1, .int x1_), (2, .int x2_), (3, .int y7), (4, .int y8)] [.int z17]) (fun z17 => ?_) (fun J163 hJ163 => ?_)
        · exact E.some (ret_i hr rfl dX11_toGain_163)
        refine E.br (fun k1 k2 => h.if_ne (tgt := 159) dX11_toGain_149 (by decide) k2 k1) ?_ ?_
        · refine E.m (h.aload_n 0 dX11_toGain_152 rfl) ?_
          refine E.m (h.get h0 lf_RX11_419 dX11_toGain_153 fv_11_36) ?_
          refine E.m (h.goto (tgt := 163) dX11_toGain_156 (by decide)) ?_
          exact hJ163 _
        · refine E.m (h.aload_n 0 dX11_toGain_159 rfl) ?_
          refine E.m (h.get h0 lf_RX11_422 dX11_toGain_160 fv_11_37) ?_
          exact hJ163 _
      · refine E.m (h.aload_n 0 dX11_toGain_77 rfl) ?_
        refine E.m (h.iconst (v := (0 : Int32)) dX11_toGain_78 (by decide)) ?_
        refine E.m (h.puti h0 lp_RX11_269 rfl dX11_toGain_79) ?_
        refine E.nmM (fun M18 => ?_)
        refine E.loop1 (fun M19 => w M19 82 [(0, .ref t), (1, .int x1_), (2, .int x2_), (3, .int y7), (4, .int y8)] []) (fun M19 => ?_) _ _
        unfold l_X11_toGain_82
        refine E.m (h.aload_n 0 dX11_toGain_82 rfl) ?_
        refine E.m (h.get h0 lf_RX11_269 dX11_toGain_83 fv_11_25) ?_
        refine E.m (h.iconst (v := (3 : Int32)) dX11_toGain_86 (by decide)) ?_
        refine E.br (fun k1 k2 => h.icmp_gt (tgt := 124) dX11_toGain_87 (by decide) k1 k2) ?_ ?_
        · refine E.m (h.aload_n 0 dX11_toGain_124 rfl) ?_
          refine E.m (h.dup dX11_toGain_125 rfl) ?_
          refine E.m (h.get h0 lf_RX11_266 dX11_toGain_126 fv_11_24) ?_
          refine E.m (h.iconst (v := (1 : Int32)) dX11_toGain_129 (by decide)) ?_
          refine E.m (h.iadd dX11_toGain_130) ?_
          refine E.m (h.puti h0 lp_RX11_266 rfl dX11_toGain_131) ?_
          refine E.nmM (fun M20 => ?_)
          refine E.m (h.goto (tgt := 68) dX11_toGain_134 (by decide)) ?_
          exact E.some (fun q => q)
        · refine E.m (h.aload_n 0 dX11_toGain_90 rfl) ?_
          refine E.m (h.bipush (v := (10 : Int32)) dX11_toGain_91 (by decide)) ?_
          refine E.m (h.aload_n 0 dX11_toGain_93 rfl) ?_
          refine E.m (h.get h0 lf_RX11_266 dX11_toGain_94 fv_11_24) ?_
          refine E.m (h.imul dX11_toGain_97) ?_
          refine E.m (h.aload_n 0 dX11_toGain_98 rfl) ?_
          refine E.m (h.get h0 lf_RX11_269 dX11_toGain_99 fv_11_25) ?_
          refine E.m (h.iadd dX11_toGain_102) ?_
          refine E.m (h.aload_n 0 dX11_toGain_103 rfl) ?_
          refine E.m (h.iload_n 1 dX11_toGain_104 rfl) ?_
          refine E.bnd (fun u21 M22 => w M22 108 [(0, .ref t), (1, .int x1_), (2, .int x2_), (3, .int y7), (4, .int y8)] [.int u21, .int (((10 : Int32) * (M19.1 t 24)) + (M19.1 t 25)), .ref t]) (fun u21 M22 hf k => h.callV (As := [.int x1_]) (rest := [.int (((10 : Int32) * (M19.1 t 24)) + (M19.1 t 25)), .ref t]) (c_X11_farOff hW h0 hf) lm_X11_farOff lv_m_X11_farOff ll_RX11_428 h0 lc_11 rfl rfl (Nat.le_of_ble_eq_true rfl) (by decide) dX11_toGain_105 rfl k) (fun u21 M22 => ?_)
          refine E.bnd (fun _ M24 => w M24 111 [(0, .ref t), (1, .int x1_), (2, .int x2_), (3, .int y7), (4, .int y8)] []) (fun _ M24 hf k => h.callV (As := [.int (((10 : Int32) * (M19.1 t 24)) + (M19.1 t 25)), .int u21]) (rest := []) (c_X11_tryBest hW h0 hf) lm_X11_tryBest lv_m_X11_tryBest ll_RX11_425 h0 lc_11 rfl rfl (Nat.le_of_ble_eq_true rfl) (by decide) dX11_toGain_108 rfl k) (fun _ M24 => ?_)
          refine E.m (h.aload_n 0 dX11_toGain_111 rfl) ?_
          refine E.m (h.dup dX11_toGain_112 rfl) ?_
          refine E.m (h.get h0 lf_RX11_269 dX11_toGain_113 fv_11_25) ?_
          refine E.m (h.iconst (v := (1 : Int32)) dX11_toGain_116 (by decide)) ?_
          refine E.m (h.iadd dX11_toGain_117) ?_
          refine E.m (h.puti h0 lp_RX11_269 rfl dX11_toGain_118) ?_
          refine E.nmM (fun M25 => ?_)
          refine E.m (h.goto (tgt := 82) dX11_toGain_121 (by decide)) ?_
          exact E.some (fun q => q)
def f_X11_note (t : Nat) (x1_ : Int32) (x2_ : Int32) (M : Mem) : Option (Int32 × Mem) :=
  bd (f_X11_ready t M) (fun _ M2 => jn1 (fun M3 => bd (f_X11_refuse t (2 : Int32) M3) (fun u4 M5 => some (u4, M5))) (fun J37 => if (M2.1 t 32) = (8 : Int32) then (J37 M2) else (bd (f_X11_isIn x1_.toInt64 (0 : Int64) (60 : Int64) M2) (fun u6 M7 => if u6 = 0 then (J37 M7) else (bd (f_X11_isIn x2_.toInt64 (0 : Int64) (999 : Int64) M7) (fun u8 M9 => if u8 = 0 then (J37 M9) else (gdi (M9.1 t 32) 8 (nm (wi M9 (t + 18) (M9.1 t 32).toNatClampNeg x1_) (fun M10 => gdi (M10.1 t 32) 8 (nm (wi M10 (t + 19) (M10.1 t 32).toNatClampNeg x2_) (fun M11 => nm (wi M11 t 32 ((M11.1 t 32) + (1 : Int32))) (fun M12 => some (M12.1 t 32, M12)))))))))))))
set_option maxRecDepth 20000 in
theorem c_X11_note {G : Ctx} (hW : WFG G) {t : Nat} {x1_ : Int32} {x2_ : Int32} {M M' : Mem} {r : Int32} (h0 : hs G t (0, 11)) (hf : f_X11_note t x1_ x2_ M = some (r, M')) : Ct G yX11_note cX11_note 3 (some .int) 3 62 [.ref t, .int x1_, .int x2_] M (some (.int r)) M' := by
  refine ct_i hW (by decide +kernel) (Nat.le_of_ble_eq_true rfl) (fun w h hr => ?_)
  have h : Rb G cX11_note RX11 3 3 62 w := h
  refine (?_ : E (fun q => q = (r, M')) (f_X11_note t x1_ x2_ M) (w M 0 [(0, .ref t), (1, .int x1_), (2, .int x2_)] [])) _ hf rfl
  unfold f_X11_note
  refine E.m (h.aload_n 0 dX11_note_0 rfl) ?_
  refine E.bnd (fun _ M2 => w M2 4 [(0, .ref t), (1, .int x1_), (2, .int x2_)] []) (fun _ M2 hf k => h.callV (As := []) (rest := []) (c_X11_ready hW h0 hf) lm_X11_ready lv_m_X11_ready ll_RX11_247 h0 lc_11 rfl rfl (Nat.le_of_ble_eq_true rfl) (by decide) dX11_note_1 rfl k) (fun _ M2 => ?_)
  refine E.m (h.aload_n 0 dX11_note_4 rfl) ?_
  refine E.m (h.get h0 lf_RX11_281 dX11_note_5 fv_11_32) ?_
  refine E.m (h.bipush (v := (8 : Int32)) dX11_note_8 (by decide)) ?_
  refine E.join1 (fun M3 => w M3 37 [(0, .ref t), (1, .int x1_), (2, .int x2_)] []) (fun M3 => ?_) (fun J37 hJ37 => ?_)
  · refine E.m (h.aload_n 0 dX11_note_37 rfl) ?_
    refine E.m (h.iconst (v := (2 : Int32)) dX11_note_38 (by decide)) ?_
    refine E.bnd (fun u4 M5 => w M5 42 [(0, .ref t), (1, .int x1_), (2, .int x2_)] [.int u4]) (fun u4 M5 hf k => h.callV (As := [.int (2 : Int32)]) (rest := []) (c_X11_refuse hW h0 hf) lm_X11_refuse lv_m_X11_refuse ll_RX11_381 h0 lc_11 rfl rfl (Nat.le_of_ble_eq_true rfl) (by decide) dX11_note_39 rfl k) (fun u4 M5 => ?_)
    exact E.some (ret_i hr rfl dX11_note_42)
  refine E.br (fun k1 k2 => h.icmp_eq (tgt := 37) dX11_note_10 (by decide) k1 k2) ?_ ?_
  · exact hJ37 _
  · refine E.m (h.iload_n 1 dX11_note_13 rfl) ?_
    refine E.m (h.i2l dX11_note_14) ?_
    refine E.m (h.lconst (v := (0 : Int64)) dX11_note_15 (by decide)) ?_
    refine E.m (h.ldc2 lj_RX11_431 dX11_note_16) ?_
    refine E.bnd (fun u6 M7 => w M7 22 [(0, .ref t), (1, .int x1_), (2, .int x2_)] [.int u6]) (fun u6 M7 hf k => h.callS (As := [.long x1_.toInt64, .long (0 : Int64), .long (60 : Int64)]) (rest := []) (c_X11_isIn hW hf) lm_X11_isIn ls_m_X11_isIn ll_RX11_358 rfl rfl (Nat.le_of_ble_eq_true rfl) (by decide) dX11_note_19 rfl k) (fun u6 M7 => ?_)
    refine E.br (fun k1 k2 => h.if_eq (tgt := 37) dX11_note_22 (by decide) k1 k2) ?_ ?_
    · exact hJ37 _
    · refine E.m (h.iload_n 2 dX11_note_25 rfl) ?_
      refine E.m (h.i2l dX11_note_26) ?_
      refine E.m (h.lconst (v := (0 : Int64)) dX11_note_27 (by decide)) ?_
      refine E.m (h.ldc2 lj_RX11_433 dX11_note_28) ?_
      refine E.bnd (fun u8 M9 => w M9 34 [(0, .ref t), (1, .int x1_), (2, .int x2_)] [.int u8]) (fun u8 M9 hf k => h.callS (As := [.long x2_.toInt64, .long (0 : Int64), .long (999 : Int64)]) (rest := []) (c_X11_isIn hW hf) lm_X11_isIn ls_m_X11_isIn ll_RX11_358 rfl rfl (Nat.le_of_ble_eq_true rfl) (by decide) dX11_note_31 rfl k) (fun u8 M9 => ?_)
      refine E.br (fun k1 k2 => h.if_ne (tgt := 43) dX11_note_34 (by decide) k2 k1) ?_ ?_
      · exact hJ37 _
      · refine E.m (h.aload_n 0 dX11_note_43 rfl) ?_
        refine E.m (h.get h0 lf_RX11_94 dX11_note_44 fv_11_38) ?_
        refine E.m (h.aload_n 0 dX11_note_47 rfl) ?_
        refine E.m (h.get h0 lf_RX11_281 dX11_note_48 fv_11_32) ?_
        refine E.m (h.iload_n 1 dX11_note_51 rfl) ?_
        refine E.gi (fun hi k => h.iast (hW.clo 57 h0 rfl) hi dX11_note_52 k) ?_
        refine E.nmM (fun M10 => ?_)
        refine E.m (h.aload_n 0 dX11_note_53 rfl) ?_
        refine E.m (h.get h0 lf_RX11_97 dX11_note_54 fv_11_39) ?_
        refine E.m (h.aload_n 0 dX11_note_57 rfl) ?_
        refine E.m (h.get h0 lf_RX11_281 dX11_note_58 fv_11_32) ?_
        refine E.m (h.iload_n 2 dX11_note_61 rfl) ?_
        refine E.gi (fun hi k => h.iast (hW.clo 58 h0 rfl) hi dX11_note_62 k) ?_
        refine E.nmM (fun M11 => ?_)
        refine E.m (h.aload_n 0 dX11_note_63 rfl) ?_
        refine E.m (h.dup dX11_note_64 rfl) ?_
        refine E.m (h.get h0 lf_RX11_281 dX11_note_65 fv_11_32) ?_
        refine E.m (h.iconst (v := (1 : Int32)) dX11_note_68 (by decide)) ?_
        refine E.m (h.iadd dX11_note_69) ?_
        refine E.m (h.puti h0 lp_RX11_281 rfl dX11_note_70) ?_
        refine E.nmM (fun M12 => ?_)
        refine E.m (h.aload_n 0 dX11_note_73 rfl) ?_
        refine E.m (h.get h0 lf_RX11_281 dX11_note_74 fv_11_32) ?_
        exact E.some (ret_i hr rfl dX11_note_77)
def l_X11_isAsNoted_19 (t : Nat) (x1_ : Int32) (k2 : Int32) (M7 : Mem) (u6 : Int32) (k8 : Int32) (k9 : Int32) : Option ((Int32 × Int32) ⊕ ((Int32 × Int32 × Mem) ⊕ (Int32 × Mem))) :=
  if (M7.1 t 32) ≤ k9 then (jn1 (fun M10 => bd (f_X11_aStep t M10) (fun _ M12 => nm (k2 + (1 : Int32)) (fun y13 => some (.inr (.inl (k8, y13, M12)))))) (fun J103 => if k2 ≤ 0 then (J103 M7) else (if (k2 - k2 / (10 : Int32) * (10 : Int32)) = 0 then (if (5 : Int32) < (k2 / (10 : Int32)) then (J103 M7) else (gdi ((((5 : Int32) * x1_) + (k2 / (10 : Int32))) - (1 : Int32)) 995 (nm (wi M7 (t + 21) ((((5 : Int32) * x1_) + (k2 / (10 : Int32))) - (1 : Int32)).toNatClampNeg u6) (fun M14 => J103 M14)))) else (J103 M7)))) else (jn1 (fun z15 => nm (k9 + (1 : Int32)) (fun y16 => some (.inl (z15, y16)))) (fun J60 => jn0 (fun _ => J60 (0 : Int32)) (fun J59 => if k8 = 0 then (J59 ()) else (gdi k9 8 (jn0 (fun _ => J60 (1 : Int32)) (fun J55 => if (M7.1 (t + 18) k9.toNatClampNeg) = k2 then (gdi k9 8 (if (M7.1 (t + 19) k9.toNatClampNeg) = u6 then (J55 ()) else (J59 ()))) else (J55 ())))))))
def l_X11_isAsNoted_4 (t : Nat) (x1_ : Int32) (k1 : Int32) (k2 : Int32) (M3 : Mem) : Option ((Int32 × Int32 × Mem) ⊕ (Int32 × Mem)) :=
  if (60 : Int32) < k2 then (bd (f_X11_back t (0 : Int32) M3) (fun u4 M5 => gdp (k1 = 0 ∨ k1 = 1) (some (.inr (k1, M5))))) else (bd (f_X11_levelNow t M3) (fun u6 M7 => lop2 FU (l_X11_isAsNoted_19 t x1_ k2 M7 u6) k1 (0 : Int32)))
def f_X11_isAsNoted (t : Nat) (x1_ : Int32) (M : Mem) : Option (Int32 × Mem) :=
  lop3 FU (l_X11_isAsNoted_4 t x1_) (1 : Int32) (0 : Int32) M
set_option maxRecDepth 20000 in
theorem c_X11_isAsNoted {G : Ctx} (hW : WFG G) {t : Nat} {x1_ : Int32} {M M' : Mem} {r : Int32} (h0 : hs G t (0, 11)) (hf : f_X11_isAsNoted t x1_ M = some (r, M')) : Ct G yX11_isAsNoted cX11_isAsNoted 6 (some .boolean) 7 153 [.ref t, .int x1_] M (some (.int r)) M' := by
  refine ct_i hW (by decide +kernel) (Nat.le_of_ble_eq_true rfl) (fun w h hr => ?_)
  have h : Rb G cX11_isAsNoted RX11 6 7 153 w := h
  refine (?_ : E (fun q => q = (r, M')) (f_X11_isAsNoted t x1_ M) (w M 0 [(0, .ref t), (1, .int x1_)] [])) _ hf rfl
  unfold f_X11_isAsNoted
  refine E.m (h.iconst (v := (1 : Int32)) dX11_isAsNoted_0 (by decide)) ?_
  refine E.m (h.istore_n dX11_isAsNoted_1 (by decide) rfl) ?_
  refine E.m (h.iconst (v := (0 : Int32)) dX11_isAsNoted_2 (by decide)) ?_
  refine E.m (h.istore_n dX11_isAsNoted_3 (by decide) rfl) ?_
  refine E.m (h.sub [2, 3, 1, 0] rfl) ?_
  refine E.loop3 (fun k1 k2 M3 => w M3 4 [(0, .ref t), (1, .int x1_), (2, .int k1), (3, .int k2)] []) (fun k1 k2 M3 => ?_) _ _ _ _
  unfold l_X11_isAsNoted_4
  refine E.m (h.iload_n 3 dX11_isAsNoted_4 rfl) ?_
  refine E.m (h.bipush (v := (60 : Int32)) dX11_isAsNoted_5 (by decide)) ?_
  refine E.br (fun k1 k2 => h.icmp_gt (tgt := 113) dX11_isAsNoted_7 (by decide) k1 k2) ?_ ?_
  · refine E.m (h.aload_n 0 dX11_isAsNoted_113 rfl) ?_
    refine E.m (h.iconst (v := (0 : Int32)) dX11_isAsNoted_114 (by decide)) ?_
    refine E.bnd (fun u4 M5 => w M5 118 [(0, .ref t), (1, .int x1_), (2, .int k1), (3, .int k2)] [.int u4]) (fun u4 M5 hf k => h.callV (As := [.int (0 : Int32)]) (rest := []) (c_X11_back hW h0 hf) lm_X11_back lv_m_X11_back ll_RX11_405 h0 lc_11 rfl rfl (Nat.le_of_ble_eq_true rfl) (by decide) dX11_isAsNoted_115 rfl k) (fun u4 M5 => ?_)
    refine E.m (h.pop dX11_isAsNoted_118 rfl) ?_
    refine E.m (h.iload_n 2 dX11_isAsNoted_119 rfl) ?_
    refine E.gd (fun hc k => k hc) (fun hc => E.imp fun hc => ?_)
    exact E.some (ret_i hr (bl_n hc).1 dX11_isAsNoted_120)
  · refine E.m (h.aload_n 0 dX11_isAsNoted_10 rfl) ?_
    refine E.bnd (fun u6 M7 => w M7 14 [(0, .ref t), (1, .int x1_), (2, .int k1), (3, .int k2)] [.int u6]) (fun u6 M7 hf k => h.callV (As := []) (rest := []) (c_X11_levelNow hW h0 hf) lm_X11_levelNow lv_m_X11_levelNow ll_RX11_325 h0 lc_11 rfl rfl (Nat.le_of_ble_eq_true rfl) (by decide) dX11_isAsNoted_11 rfl k) (fun u6 M7 => ?_)
    refine E.m (h.istore dX11_isAsNoted_14 (by decide) rfl) ?_
    refine E.m (h.iconst (v := (0 : Int32)) dX11_isAsNoted_16 (by decide)) ?_
    refine E.m (h.istore dX11_isAsNoted_17 (by decide) rfl) ?_
    refine E.m (h.sub [2, 3, 4, 5, 1, 0] rfl) ?_
    refine E.loop2 (fun k8 k9 => w M7 19 [(0, .ref t), (1, .int x1_), (2, .int k8), (3, .int k2), (4, .int u6), (5, .int k9)] []) (fun k8 k9 => ?_) _ _ _
    unfold l_X11_isAsNoted_19
    refine E.m (h.iload 5 dX11_isAsNoted_19 rfl) ?_
    refine E.m (h.aload_n 0 dX11_isAsNoted_21 rfl) ?_
    refine E.m (h.get h0 lf_RX11_281 dX11_isAsNoted_22 fv_11_32) ?_
    refine E.br (fun k1 k2 => h.icmp_ge (tgt := 67) dX11_isAsNoted_25 (by decide) k1 k2) ?_ ?_
    · refine E.m (h.iload_n 3 dX11_isAsNoted_67 rfl) ?_
      refine E.join1 (fun M10 => w M10 103 [(0, .ref t), (1, .int x1_), (2, .int k8), (3, .int k2), (4, .int u6), (5, .int k9)] []) (fun M10 => ?_) (fun J103 hJ103 => ?_)
      · refine E.m (h.aload_n 0 dX11_isAsNoted_103 rfl) ?_
        refine E.bnd (fun _ M12 => w M12 107 [(0, .ref t), (1, .int x1_), (2, .int k8), (3, .int k2), (4, .int u6), (5, .int k9)] []) (fun _ M12 hf k => h.callV (As := []) (rest := []) (c_X11_aStep hW h0 hf) lm_X11_aStep lv_m_X11_aStep ll_RX11_349 h0 lc_11 rfl rfl (Nat.le_of_ble_eq_true rfl) (by decide) dX11_isAsNoted_104 rfl k) (fun _ M12 => ?_)
        refine E.m (h.iinc (v := (1 : Int32)) 3 dX11_isAsNoted_107 rfl (by decide) (by decide) rfl) ?_
        refine E.nmL (fun y13 => ?_)
        refine E.m (h.goto (tgt := 4) dX11_isAsNoted_110 (by decide)) ?_
        refine E.m (h.sub [1, 2, 3, 0] rfl) ?_
        exact E.some (fun q => q)
      refine E.br (fun k1 k2 => h.if_le (tgt := 103) dX11_isAsNoted_68 (by decide) k1 k2) ?_ ?_
      · exact hJ103 _
      · refine E.m (h.iload_n 3 dX11_isAsNoted_71 rfl) ?_
        refine E.m (h.bipush (v := (10 : Int32)) dX11_isAsNoted_72 (by decide)) ?_
        refine E.m (h.irem (by decide) dX11_isAsNoted_74) ?_
        refine E.br (fun k1 k2 => h.if_ne (tgt := 103) dX11_isAsNoted_75 (by decide) k2 k1) ?_ ?_
        · refine E.m (h.iload_n 3 dX11_isAsNoted_78 rfl) ?_
          refine E.m (h.bipush (v := (10 : Int32)) dX11_isAsNoted_79 (by decide)) ?_
          refine E.m (h.idiv (by decide) dX11_isAsNoted_81) ?_
          refine E.m (h.iconst (v := (5 : Int32)) dX11_isAsNoted_82 (by decide)) ?_
          refine E.br (fun k1 k2 => h.icmp_gt (tgt := 103) dX11_isAsNoted_83 (by decide) k1 k2) ?_ ?_
          · exact hJ103 _
          · refine E.m (h.aload_n 0 dX11_isAsNoted_86 rfl) ?_
            refine E.m (h.get h0 lf_RX11_103 dX11_isAsNoted_87 fv_11_41) ?_
            refine E.m (h.iconst (v := (5 : Int32)) dX11_isAsNoted_90 (by decide)) ?_
            refine E.m (h.iload_n 1 dX11_isAsNoted_91 rfl) ?_
            refine E.m (h.imul dX11_isAsNoted_92) ?_
            refine E.m (h.iload_n 3 dX11_isAsNoted_93 rfl) ?_
            refine E.m (h.bipush (v := (10 : Int32)) dX11_isAsNoted_94 (by decide)) ?_
            refine E.m (h.idiv (by decide) dX11_isAsNoted_96) ?_
            refine E.m (h.iadd dX11_isAsNoted_97) ?_
            refine E.m (h.iconst (v := (1 : Int32)) dX11_isAsNoted_98 (by decide)) ?_
            refine E.m (h.isub dX11_isAsNoted_99) ?_
            refine E.m (h.iload 4 dX11_isAsNoted_100 rfl) ?_
            refine E.gi (fun hi k => h.iast (hW.clo 60 h0 rfl) hi dX11_isAsNoted_102 k) ?_
            refine E.nmM (fun M14 => ?_)
            exact hJ103 _
        · exact hJ103 _
    · refine E.m (h.iload_n 2 dX11_isAsNoted_28 rfl) ?_
      refine E.join1 (fun z15 => w M7 60 [(0, .ref t), (1, .int x1_), (2, .int k8), (3, .int k2), (4, .int u6), (5, .int k9)] [.int z15]) (fun z15 => ?_) (fun J60 hJ60 => ?_)
      · refine E.m (h.istore_n dX11_isAsNoted_60 (by decide) rfl) ?_
        refine E.m (h.iinc (v := (1 : Int32)) 5 dX11_isAsNoted_61 rfl (by decide) (by decide) rfl) ?_
        refine E.nmL (fun y16 => ?_)
        refine E.m (h.goto (tgt := 19) dX11_isAsNoted_64 (by decide)) ?_
        refine E.m (h.sub [2, 3, 1, 4, 5, 0] rfl) ?_
        exact E.some (fun q => q)
      refine E.join0 (fun _ => w M7 59 [(0, .ref t), (1, .int x1_), (2, .int k8), (3, .int k2), (4, .int u6), (5, .int k9)] []) (fun _ => ?_) (fun J59 hJ59 => ?_)
      · refine E.m (h.iconst (v := (0 : Int32)) dX11_isAsNoted_59 (by decide)) ?_
        exact hJ60 _
      refine E.br (fun k1 k2 => h.if_eq (tgt := 59) dX11_isAsNoted_29 (by decide) k1 k2) ?_ ?_
      · exact hJ59 ()
      · refine E.m (h.aload_n 0 dX11_isAsNoted_32 rfl) ?_
        refine E.m (h.get h0 lf_RX11_94 dX11_isAsNoted_33 fv_11_38) ?_
        refine E.m (h.iload 5 dX11_isAsNoted_36 rfl) ?_
        refine E.gi (fun hi k => h.iald (hW.clo 57 h0 rfl) hi dX11_isAsNoted_38 k) ?_
        refine E.m (h.iload_n 3 dX11_isAsNoted_39 rfl) ?_
        refine E.join0 (fun _ => w M7 55 [(0, .ref t), (1, .int x1_), (2, .int k8), (3, .int k2), (4, .int u6), (5, .int k9)] []) (fun _ => ?_) (fun J55 hJ55 => ?_)
        · refine E.m (h.iconst (v := (1 : Int32)) dX11_isAsNoted_55 (by decide)) ?_
          refine E.m (h.goto (tgt := 60) dX11_isAsNoted_56 (by decide)) ?_
          exact hJ60 _
        refine E.br (fun k1 k2 => h.icmp_ne (tgt := 55) dX11_isAsNoted_40 (by decide) k2 k1) ?_ ?_
        · refine E.m (h.aload_n 0 dX11_isAsNoted_43 rfl) ?_
          refine E.m (h.get h0 lf_RX11_97 dX11_isAsNoted_44 fv_11_39) ?_
          refine E.m (h.iload 5 dX11_isAsNoted_47 rfl) ?_
          refine E.gi (fun hi k => h.iald (hW.clo 58 h0 rfl) hi dX11_isAsNoted_49 k) ?_
          refine E.m (h.iload 4 dX11_isAsNoted_50 rfl) ?_
          refine E.br (fun k1 k2 => h.icmp_ne (tgt := 59) dX11_isAsNoted_52 (by decide) k2 k1) ?_ ?_
          · exact hJ55 ()
          · exact hJ59 ()
        · exact hJ55 ()
def l_X11_tellFits_20 (t : Nat) (y4 : Int32) (k5 : Int32) (M6 : Mem) : Option ((Int32 × Mem) ⊕ (Unit × Mem)) :=
  if (99 : Int32) < k5 then (some (.inr ((), M6))) else (jn1 (fun M7 => nm (k5 + (1 : Int32)) (fun y8 => some (.inl (y8, M7)))) (fun J76 => if k5 = y4 then (J76 M6) else (nm (wi M6 (t + 8) 27 k5) (fun M9 => bd (f_X11_isAsNoted t (M9.1 t 42) M9) (fun u10 M11 => if u10 = 0 then (J76 M11) else (gdi (M11.1 t 42) 199 (nm (wi M11 (t + 20) (M11.1 t 42).toNatClampNeg k5) (fun M12 => nm (wi M12 t 42 ((M12.1 t 42) + (1 : Int32))) (fun M13 => J76 M13)))))))))
def f_X11_tellFits (t : Nat) (M : Mem) : Option (Unit × Mem) :=
  nm (wi M t 42 (0 : Int32)) (fun M1 => bd (f_X11_rememberNow t M1) (fun _ M3 => nm (M3.1 (t + 8) 27) (fun y4 => lop2 FU (l_X11_tellFits_20 t y4) (-99 : Int32) M3)))
set_option maxRecDepth 20000 in
theorem c_X11_tellFits {G : Ctx} (hW : WFG G) {t : Nat} {M M' : Mem} (h0 : hs G t (0, 11)) (hf : f_X11_tellFits t M = some ((), M')) : Ct G yX11_tellFits cX11_tellFits 3 none 8 178 [.ref t] M none M' := by
  refine ct_v hW (by decide +kernel) (Nat.le_of_ble_eq_true rfl) (fun w h hr => ?_)
  have h : Rb G cX11_tellFits RX11 3 8 178 w := h
  refine (?_ : E (fun q => q = ((), M')) (f_X11_tellFits t M) (w M 0 [(0, .ref t)] [])) _ hf rfl
  unfold f_X11_tellFits
  refine E.m (h.aload_n 0 dX11_tellFits_0 rfl) ?_
  refine E.m (h.iconst (v := (0 : Int32)) dX11_tellFits_1 (by decide)) ?_
  refine E.m (h.puti h0 lp_RX11_435 rfl dX11_tellFits_2) ?_
  refine E.nmM (fun M1 => ?_)
  refine E.m (h.aload_n 0 dX11_tellFits_5 rfl) ?_
  refine E.bnd (fun _ M3 => w M3 9 [(0, .ref t)] []) (fun _ M3 hf k => h.callV (As := []) (rest := []) (c_X11_rememberNow hW h0 hf) lm_X11_rememberNow lv_m_X11_rememberNow ll_RX11_402 h0 lc_11 rfl rfl (Nat.le_of_ble_eq_true rfl) (by decide) dX11_tellFits_6 rfl k) (fun _ M3 => ?_)
  refine E.m (h.aload_n 0 dX11_tellFits_9 rfl) ?_
  refine E.m (h.get h0 lf_RX11_59 dX11_tellFits_10 fv_11_8) ?_
  refine E.m (h.bipush (v := (27 : Int32)) dX11_tellFits_13 (by decide)) ?_
  refine E.m (h.ialdk (k := 27) (hW.clo 47 h0 rfl) (by decide) rfl dX11_tellFits_15) ?_
  refine E.m (h.istore_n dX11_tellFits_16 (by decide) rfl) ?_
  refine E.nmL (fun y4 => ?_)
  refine E.m (h.bipush (v := (-99 : Int32)) dX11_tellFits_17 (by decide)) ?_
  refine E.m (h.istore_n dX11_tellFits_19 (by decide) rfl) ?_
  refine E.m (h.sub [2, 1, 0] rfl) ?_
  refine E.loop2 (fun k5 M6 => w M6 20 [(0, .ref t), (1, .int y4), (2, .int k5)] []) (fun k5 M6 => ?_) _ _ _
  unfold l_X11_tellFits_20
  refine E.m (h.iload_n 2 dX11_tellFits_20 rfl) ?_
  refine E.m (h.bipush (v := (99 : Int32)) dX11_tellFits_21 (by decide)) ?_
  refine E.br (fun k1 k2 => h.icmp_gt (tgt := 82) dX11_tellFits_23 (by decide) k1 k2) ?_ ?_
  · exact E.some (ret_v hr dX11_tellFits_82)
  · refine E.m (h.iload_n 2 dX11_tellFits_26 rfl) ?_
    refine E.m (h.iload_n 1 dX11_tellFits_27 rfl) ?_
    refine E.join1 (fun M7 => w M7 76 [(0, .ref t), (1, .int y4), (2, .int k5)] []) (fun M7 => ?_) (fun J76 hJ76 => ?_)
    · refine E.m (h.iinc (v := (1 : Int32)) 2 dX11_tellFits_76 rfl (by decide) (by decide) rfl) ?_
      refine E.nmL (fun y8 => ?_)
      refine E.m (h.goto (tgt := 20) dX11_tellFits_79 (by decide)) ?_
      refine E.m (h.sub [1, 2, 0] rfl) ?_
      exact E.some (fun q => q)
    refine E.br (fun k1 k2 => h.icmp_ne (tgt := 34) dX11_tellFits_28 (by decide) k2 k1) ?_ ?_
    · refine E.m (h.goto (tgt := 76) dX11_tellFits_31 (by decide)) ?_
      exact hJ76 _
    · refine E.m (h.aload_n 0 dX11_tellFits_34 rfl) ?_
      refine E.m (h.get h0 lf_RX11_59 dX11_tellFits_35 fv_11_8) ?_
      refine E.m (h.bipush (v := (27 : Int32)) dX11_tellFits_38 (by decide)) ?_
      refine E.m (h.iload_n 2 dX11_tellFits_40 rfl) ?_
      refine E.m (h.iastk (k := 27) (hW.clo 47 h0 rfl) (by decide) rfl dX11_tellFits_41) ?_
      refine E.nmM (fun M9 => ?_)
      refine E.m (h.aload_n 0 dX11_tellFits_42 rfl) ?_
      refine E.m (h.aload_n 0 dX11_tellFits_43 rfl) ?_
      refine E.m (h.get h0 lf_RX11_435 dX11_tellFits_44 fv_11_42) ?_
      refine E.bnd (fun u10 M11 => w M11 50 [(0, .ref t), (1, .int y4), (2, .int k5)] [.int u10]) (fun u10 M11 hf k => h.callV (As := [.int (M9.1 t 42)]) (rest := []) (c_X11_isAsNoted hW h0 hf) lm_X11_isAsNoted lv_m_X11_isAsNoted ll_RX11_438 h0 lc_11 rfl rfl (Nat.le_of_ble_eq_true rfl) (by decide) dX11_tellFits_47 rfl k) (fun u10 M11 => ?_)
      refine E.br (fun k1 k2 => h.if_ne (tgt := 56) dX11_tellFits_50 (by decide) k2 k1) ?_ ?_
      · refine E.m (h.goto (tgt := 76) dX11_tellFits_53 (by decide)) ?_
        exact hJ76 _
      · refine E.m (h.aload_n 0 dX11_tellFits_56 rfl) ?_
        refine E.m (h.get h0 lf_RX11_100 dX11_tellFits_57 fv_11_40) ?_
        refine E.m (h.aload_n 0 dX11_tellFits_60 rfl) ?_
        refine E.m (h.get h0 lf_RX11_435 dX11_tellFits_61 fv_11_42) ?_
        refine E.m (h.iload_n 2 dX11_tellFits_64 rfl) ?_
        refine E.gi (fun hi k => h.iast (hW.clo 59 h0 rfl) hi dX11_tellFits_65 k) ?_
        refine E.nmM (fun M12 => ?_)
        refine E.m (h.aload_n 0 dX11_tellFits_66 rfl) ?_
        refine E.m (h.dup dX11_tellFits_67 rfl) ?_
        refine E.m (h.get h0 lf_RX11_435 dX11_tellFits_68 fv_11_42) ?_
        refine E.m (h.iconst (v := (1 : Int32)) dX11_tellFits_71 (by decide)) ?_
        refine E.m (h.iadd dX11_tellFits_72) ?_
        refine E.m (h.puti h0 lp_RX11_435 rfl dX11_tellFits_73) ?_
        refine E.nmM (fun M13 => ?_)
        exact hJ76 _
def f_X11_other (t : Nat) (x1_ : Int32) (M : Mem) : Option (Int32 × Mem) :=
  bd (f_X11_ready t M) (fun _ M2 => bd (f_X11_isIn x1_.toInt64 (0 : Int64) (2 : Int64) M2) (fun u3 M4 => if u3 = 0 then (bd (f_X11_fail t (1 : Int32) M4) (fun u13 M14 => some (u13, M14))) else (if x1_ = (2 : Int32) then (bd (f_X11_rememberNow t M4) (fun _ M9 => bd (f_X11_isAsNoted t (0 : Int32) M9) (fun u10 M11 => jn1 (fun z12 => some (z12, M11)) (fun J44 => if u10 = 0 then (J44 (0 : Int32)) else (J44 (1 : Int32)))))) else (bd (f_X11_tellFits t M4) (fun _ M6 => jn1 (fun z7 => some (z7, M6)) (fun J78 => if x1_ = 0 then (J78 (M6.1 t 42)) else (if (M6.1 t 42) = 0 then (J78 (100 : Int32)) else (J78 (M6.1 (t + 20) 0)))))))))
set_option maxRecDepth 20000 in
theorem c_X11_other {G : Ctx} (hW : WFG G) {t : Nat} {x1_ : Int32} {M M' : Mem} {r : Int32} (h0 : hs G t (0, 11)) (hf : f_X11_other t x1_ M = some (r, M')) : Ct G yX11_other cX11_other 2 (some .int) 9 200 [.ref t, .int x1_] M (some (.int r)) M' := by
  refine ct_i hW (by decide +kernel) (Nat.le_of_ble_eq_true rfl) (fun w h hr => ?_)
  have h : Rb G cX11_other RX11 2 9 200 w := h
  refine (?_ : E (fun q => q = (r, M')) (f_X11_other t x1_ M) (w M 0 [(0, .ref t), (1, .int x1_)] [])) _ hf rfl
  unfold f_X11_other
  refine E.m (h.aload_n 0 dX11_other_0 rfl) ?_
  refine E.bnd (fun _ M2 => w M2 4 [(0, .ref t), (1, .int x1_)] []) (fun _ M2 hf k => h.callV (As := []) (rest := []) (c_X11_ready hW h0 hf) lm_X11_ready lv_m_X11_ready ll_RX11_247 h0 lc_11 rfl rfl (Nat.le_of_ble_eq_true rfl) (by decide) dX11_other_1 rfl k) (fun _ M2 => ?_)
  refine E.m (h.iload_n 1 dX11_other_4 rfl) ?_
  refine E.m (h.i2l dX11_other_5) ?_
  refine E.m (h.lconst (v := (0 : Int64)) dX11_other_6 (by decide)) ?_
  refine E.m (h.ldc2 lj_RX11_362 dX11_other_7) ?_
  refine E.bnd (fun u3 M4 => w M4 13 [(0, .ref t), (1, .int x1_)] [.int u3]) (fun u3 M4 hf k => h.callS (As := [.long x1_.toInt64, .long (0 : Int64), .long (2 : Int64)]) (rest := []) (c_X11_isIn hW hf) lm_X11_isIn ls_m_X11_isIn ll_RX11_358 rfl rfl (Nat.le_of_ble_eq_true rfl) (by decide) dX11_other_10 rfl k) (fun u3 M4 => ?_)
  refine E.br (fun k1 k2 => h.if_ne (tgt := 22) dX11_other_13 (by decide) k2 k1) ?_ ?_
  · refine E.m (h.aload_n 0 dX11_other_16 rfl) ?_
    refine E.m (h.iconst (v := (1 : Int32)) dX11_other_17 (by decide)) ?_
    refine E.bnd (fun u13 M14 => w M14 21 [(0, .ref t), (1, .int x1_)] [.int u13]) (fun u13 M14 hf k => h.callV (As := [.int (1 : Int32)]) (rest := []) (c_X11_fail hW h0 hf) lm_X11_fail lv_m_X11_fail ll_RX11_250 h0 lc_11 rfl rfl (Nat.le_of_ble_eq_true rfl) (by decide) dX11_other_18 rfl k) (fun u13 M14 => ?_)
    exact E.some (ret_i hr rfl dX11_other_21)
  · refine E.m (h.iload_n 1 dX11_other_22 rfl) ?_
    refine E.m (h.iconst (v := (2 : Int32)) dX11_other_23 (by decide)) ?_
    refine E.br (fun k1 k2 => h.icmp_ne (tgt := 45) dX11_other_24 (by decide) k2 k1) ?_ ?_
    · refine E.m (h.aload_n 0 dX11_other_27 rfl) ?_
      refine E.bnd (fun _ M9 => w M9 31 [(0, .ref t), (1, .int x1_)] []) (fun _ M9 hf k => h.callV (As := []) (rest := []) (c_X11_rememberNow hW h0 hf) lm_X11_rememberNow lv_m_X11_rememberNow ll_RX11_402 h0 lc_11 rfl rfl (Nat.le_of_ble_eq_true rfl) (by decide) dX11_other_28 rfl k) (fun _ M9 => ?_)
      refine E.m (h.aload_n 0 dX11_other_31 rfl) ?_
      refine E.m (h.iconst (v := (0 : Int32)) dX11_other_32 (by decide)) ?_
      refine E.bnd (fun u10 M11 => w M11 36 [(0, .ref t), (1, .int x1_)] [.int u10]) (fun u10 M11 hf k => h.callV (As := [.int (0 : Int32)]) (rest := []) (c_X11_isAsNoted hW h0 hf) lm_X11_isAsNoted lv_m_X11_isAsNoted ll_RX11_438 h0 lc_11 rfl rfl (Nat.le_of_ble_eq_true rfl) (by decide) dX11_other_33 rfl k) (fun u10 M11 => ?_)
      refine E.join1 (fun z12 => w M11 44 [(0, .ref t), (1, .int x1_)] [.int z12]) (fun z12 => ?_) (fun J44 hJ44 => ?_)
      · exact E.some (ret_i hr rfl dX11_other_44)
      refine E.br (fun k1 k2 => h.if_eq (tgt := 43) dX11_other_36 (by decide) k1 k2) ?_ ?_
      · refine E.m (h.iconst (v := (0 : Int32)) dX11_other_43 (by decide)) ?_
        exact hJ44 _
      · refine E.m (h.iconst (v := (1 : Int32)) dX11_other_39 (by decide)) ?_
        refine E.m (h.goto (tgt := 44) dX11_other_40 (by decide)) ?_
        exact hJ44 _
    · refine E.m (h.aload_n 0 dX11_other_45 rfl) ?_
      refine E.bnd (fun _ M6 => w M6 49 [(0, .ref t), (1, .int x1_)] []) (fun _ M6 hf k => h.callV (As := []) (rest := []) (c_X11_tellFits hW h0 hf) lm_X11_tellFits lv_m_X11_tellFits ll_RX11_441 h0 lc_11 rfl rfl (Nat.le_of_ble_eq_true rfl) (by decide) dX11_other_46 rfl k) (fun _ M6 => ?_)
      refine E.m (h.iload_n 1 dX11_other_49 rfl) ?_
      refine E.join1 (fun z7 => w M6 78 [(0, .ref t), (1, .int x1_)] [.int z7]) (fun z7 => ?_) (fun J78 hJ78 => ?_)
      · exact E.some (ret_i hr rfl dX11_other_78)
      refine E.br (fun k1 k2 => h.if_ne (tgt := 60) dX11_other_50 (by decide) k2 k1) ?_ ?_
      · refine E.m (h.aload_n 0 dX11_other_53 rfl) ?_
        refine E.m (h.get h0 lf_RX11_435 dX11_other_54 fv_11_42) ?_
        refine E.m (h.goto (tgt := 78) dX11_other_57 (by decide)) ?_
        exact hJ78 _
      · refine E.m (h.aload_n 0 dX11_other_60 rfl) ?_
        refine E.m (h.get h0 lf_RX11_435 dX11_other_61 fv_11_42) ?_
        refine E.br (fun k1 k2 => h.if_ne (tgt := 72) dX11_other_64 (by decide) k2 k1) ?_ ?_
        · refine E.m (h.bipush (v := (100 : Int32)) dX11_other_67 (by decide)) ?_
          refine E.m (h.goto (tgt := 78) dX11_other_69 (by decide)) ?_
          exact hJ78 _
        · refine E.m (h.aload_n 0 dX11_other_72 rfl) ?_
          refine E.m (h.get h0 lf_RX11_100 dX11_other_73 fv_11_40) ?_
          refine E.m (h.iconst (v := (0 : Int32)) dX11_other_76 (by decide)) ?_
          refine E.m (h.ialdk (k := 0) (hW.clo 59 h0 rfl) (by decide) rfl dX11_other_77) ?_
          exact hJ78 _
def l_X11_unlikeAt_18 (t : Nat) (x1_ : Int32) (M : Mem) (k1 : Int32) (k2 : Int32) (k3 : Int32) (k4 : Int32) : Option ((Int32 × Int32) ⊕ ((Int32 × Int32) ⊕ (Int32 × Mem))) :=
  jn0 (fun _ => jn1 (fun z5 => nm (k1 + z5) (fun y6 => nm (k2 + (1 : Int32)) (fun y7 => some (.inr (.inl (y6, y7)))))) (fun J77 => if k3 = 0 then (J77 (0 : Int32)) else (J77 (1 : Int32)))) (fun J66 => if k2 ≤ k4 then (J66 ()) else (if k3 = 0 then (J66 ()) else (gdi (((5 : Int32) * k4) + x1_) 995 (gdi (((5 : Int32) * k2) + x1_) 995 (jn1 (fun z8 => nm (k4 + (1 : Int32)) (fun y9 => some (.inl (z8, y9)))) (fun J58 => if (M.1 (t + 21) (((5 : Int32) * k4) + x1_).toNatClampNeg) = (M.1 (t + 21) (((5 : Int32) * k2) + x1_).toNatClampNeg) then (J58 (0 : Int32)) else (J58 (1 : Int32))))))))
def l_X11_unlikeAt_4 (t : Nat) (x1_ : Int32) (M : Mem) (k1 : Int32) (k2 : Int32) : Option ((Int32 × Int32) ⊕ (Int32 × Mem)) :=
  if (M.1 t 42) ≤ k2 then (some (.inr (k1, M))) else (lop2 FU (l_X11_unlikeAt_18 t x1_ M k1 k2) (1 : Int32) (0 : Int32))
def f_X11_unlikeAt (t : Nat) (x1_ : Int32) (M : Mem) : Option (Int32 × Mem) :=
  lop2 FU (l_X11_unlikeAt_4 t x1_ M) (0 : Int32) (0 : Int32)
set_option maxRecDepth 20000 in
theorem c_X11_unlikeAt {G : Ctx} (hW : WFG G) {t : Nat} {x1_ : Int32} {M M' : Mem} {r : Int32} (h0 : hs G t (0, 11)) (hf : f_X11_unlikeAt t x1_ M = some (r, M')) : Ct G yX11_unlikeAt cX11_unlikeAt 6 (some .int) 0 0 [.ref t, .int x1_] M (some (.int r)) M' := by
  refine ct_i hW (by decide +kernel) (Nat.le_of_ble_eq_true rfl) (fun w h hr => ?_)
  have h : Rb G cX11_unlikeAt RX11 6 0 0 w := h
  refine (?_ : E (fun q => q = (r, M')) (f_X11_unlikeAt t x1_ M) (w M 0 [(0, .ref t), (1, .int x1_)] [])) _ hf rfl
  unfold f_X11_unlikeAt
  refine E.m (h.iconst (v := (0 : Int32)) dX11_unlikeAt_0 (by decide)) ?_
  refine E.m (h.istore_n dX11_unlikeAt_1 (by decide) rfl) ?_
  refine E.m (h.iconst (v := (0 : Int32)) dX11_unlikeAt_2 (by decide)) ?_
  refine E.m (h.istore_n dX11_unlikeAt_3 (by decide) rfl) ?_
  refine E.m (h.sub [2, 3, 1, 0] rfl) ?_
  refine E.loop2 (fun k1 k2 => w M 4 [(0, .ref t), (1, .int x1_), (2, .int k1), (3, .int k2)] []) (fun k1 k2 => ?_) _ _ _
  unfold l_X11_unlikeAt_4
  refine E.m (h.iload_n 3 dX11_unlikeAt_4 rfl) ?_
  refine E.m (h.aload_n 0 dX11_unlikeAt_5 rfl) ?_
  refine E.m (h.get h0 lf_RX11_435 dX11_unlikeAt_6 fv_11_42) ?_
  refine E.br (fun k1 k2 => h.icmp_ge (tgt := 85) dX11_unlikeAt_9 (by decide) k1 k2) ?_ ?_
  · refine E.m (h.iload_n 2 dX11_unlikeAt_85 rfl) ?_
    exact E.some (ret_i hr rfl dX11_unlikeAt_86)
  · refine E.m (h.iconst (v := (1 : Int32)) dX11_unlikeAt_12 (by decide)) ?_
    refine E.m (h.istore dX11_unlikeAt_13 (by decide) rfl) ?_
    refine E.m (h.iconst (v := (0 : Int32)) dX11_unlikeAt_15 (by decide)) ?_
    refine E.m (h.istore dX11_unlikeAt_16 (by decide) rfl) ?_
    refine E.m (h.sub [2, 3, 4, 5, 1, 0] rfl) ?_
    refine E.loop2 (fun k3 k4 => w M 18 [(0, .ref t), (1, .int x1_), (2, .int k1), (3, .int k2), (4, .int k3), (5, .int k4)] []) (fun k3 k4 => ?_) _ _ _
    unfold l_X11_unlikeAt_18
    refine E.m (h.iload 5 dX11_unlikeAt_18 rfl) ?_
    refine E.m (h.iload_n 3 dX11_unlikeAt_20 rfl) ?_
    refine E.join0 (fun _ => w M 66 [(0, .ref t), (1, .int x1_), (2, .int k1), (3, .int k2), (4, .int k3), (5, .int k4)] []) (fun _ => ?_) (fun J66 hJ66 => ?_)
    · refine E.m (h.iload_n 2 dX11_unlikeAt_66 rfl) ?_
      refine E.m (h.iload 4 dX11_unlikeAt_67 rfl) ?_
      refine E.join1 (fun z5 => w M 77 [(0, .ref t), (1, .int x1_), (2, .int k1), (3, .int k2), (4, .int k3), (5, .int k4)] [.int z5, .int k1]) (fun z5 => ?_) (fun J77 hJ77 => ?_)
      · refine E.m (h.iadd dX11_unlikeAt_77) ?_
        refine E.m (h.istore_n dX11_unlikeAt_78 (by decide) rfl) ?_
        refine E.nmL (fun y6 => ?_)
        refine E.m (h.iinc (v := (1 : Int32)) 3 dX11_unlikeAt_79 rfl (by decide) (by decide) rfl) ?_
        refine E.nmL (fun y7 => ?_)
        refine E.m (h.goto (tgt := 4) dX11_unlikeAt_82 (by decide)) ?_
        refine E.m (h.sub [2, 3, 1, 0] rfl) ?_
        exact E.some (fun q => q)
      refine E.br (fun k1 k2 => h.if_eq (tgt := 76) dX11_unlikeAt_69 (by decide) k1 k2) ?_ ?_
      · refine E.m (h.iconst (v := (0 : Int32)) dX11_unlikeAt_76 (by decide)) ?_
        exact hJ77 _
      · refine E.m (h.iconst (v := (1 : Int32)) dX11_unlikeAt_72 (by decide)) ?_
        refine E.m (h.goto (tgt := 77) dX11_unlikeAt_73 (by decide)) ?_
        exact hJ77 _
    refine E.br (fun k1 k2 => h.icmp_ge (tgt := 66) dX11_unlikeAt_21 (by decide) k1 k2) ?_ ?_
    · exact hJ66 ()
    · refine E.m (h.iload 4 dX11_unlikeAt_24 rfl) ?_
      refine E.br (fun k1 k2 => h.if_eq (tgt := 66) dX11_unlikeAt_26 (by decide) k1 k2) ?_ ?_
      · exact hJ66 ()
      · refine E.m (h.aload_n 0 dX11_unlikeAt_29 rfl) ?_
        refine E.m (h.get h0 lf_RX11_103 dX11_unlikeAt_30 fv_11_41) ?_
        refine E.m (h.iconst (v := (5 : Int32)) dX11_unlikeAt_33 (by decide)) ?_
        refine E.m (h.iload 5 dX11_unlikeAt_34 rfl) ?_
        refine E.m (h.imul dX11_unlikeAt_36) ?_
        refine E.m (h.iload_n 1 dX11_unlikeAt_37 rfl) ?_
        refine E.m (h.iadd dX11_unlikeAt_38) ?_
        refine E.gi (fun hi k => h.iald (hW.clo 60 h0 rfl) hi dX11_unlikeAt_39 k) ?_
        refine E.m (h.aload_n 0 dX11_unlikeAt_40 rfl) ?_
        refine E.m (h.get h0 lf_RX11_103 dX11_unlikeAt_41 fv_11_41) ?_
        refine E.m (h.iconst (v := (5 : Int32)) dX11_unlikeAt_44 (by decide)) ?_
        refine E.m (h.iload_n 3 dX11_unlikeAt_45 rfl) ?_
        refine E.m (h.imul dX11_unlikeAt_46) ?_
        refine E.m (h.iload_n 1 dX11_unlikeAt_47 rfl) ?_
        refine E.m (h.iadd dX11_unlikeAt_48) ?_
        refine E.gi (fun hi k => h.iald (hW.clo 60 h0 rfl) hi dX11_unlikeAt_49 k) ?_
        refine E.join1 (fun z8 => w M 58 [(0, .ref t), (1, .int x1_), (2, .int k1), (3, .int k2), (4, .int k3), (5, .int k4)] [.int z8]) (fun z8 => ?_) (fun J58 hJ58 => ?_)
        · refine E.m (h.istore dX11_unlikeAt_58 (by decide) rfl) ?_
          refine E.m (h.iinc (v := (1 : Int32)) 5 dX11_unlikeAt_60 rfl (by decide) (by decide) rfl) ?_
          refine E.nmL (fun y9 => ?_)
          refine E.m (h.goto (tgt := 18) dX11_unlikeAt_63 (by decide)) ?_
          refine E.m (h.sub [2, 3, 4, 5, 1, 0] rfl) ?_
          exact E.some (fun q => q)
        refine E.br (fun k1 k2 => h.icmp_eq (tgt := 57) dX11_unlikeAt_50 (by decide) k1 k2) ?_ ?_
        · refine E.m (h.iconst (v := (0 : Int32)) dX11_unlikeAt_57 (by decide)) ?_
          exact hJ58 _
        · refine E.m (h.iconst (v := (1 : Int32)) dX11_unlikeAt_53 (by decide)) ?_
          refine E.m (h.goto (tgt := 58) dX11_unlikeAt_54 (by decide)) ?_
          exact hJ58 _
def l_X11_look_31 (t : Nat) (x1_ : Int32) (k7 : Int32) (k8 : Int32) (k9 : Int32) (M10 : Mem) : Option ((Int32 × Int32 × Int32 × Mem) ⊕ (Int32 × Mem)) :=
  if (5 : Int32) ≤ k9 then (jn1 (fun z11 => some (.inr (z11, M10))) (fun J80 => if x1_ = 0 then (J80 k7) else (J80 k8))) else (bd (f_X11_unlikeAt t k9 M10) (fun u12 M13 => jn2 (fun z14 z15 => nm (k9 + (1 : Int32)) (fun y16 => some (.inl (z14, z15, y16, M13)))) (fun J65 => if k8 < u12 then (nm ((10 : Int32) * (k9 + (1 : Int32))) (fun y17 => J65 y17 u12)) else (J65 k7 k8))))
def f_X11_look (t : Nat) (x1_ : Int32) (M : Mem) : Option (Int32 × Mem) :=
  bd (f_X11_ready t M) (fun _ M2 => bd (f_X11_isIn x1_.toInt64 (0 : Int64) (1 : Int64) M2) (fun u3 M4 => if u3 = 0 then (bd (f_X11_fail t (1 : Int32) M4) (fun u18 M19 => some (u18, M19))) else (bd (f_X11_tellFits t M4) (fun _ M6 => lop4 FU (l_X11_look_31 t x1_) (-1 : Int32) (0 : Int32) (0 : Int32) M6))))
set_option maxRecDepth 20000 in
theorem c_X11_look {G : Ctx} (hW : WFG G) {t : Nat} {x1_ : Int32} {M M' : Mem} {r : Int32} (h0 : hs G t (0, 11)) (hf : f_X11_look t x1_ M = some (r, M')) : Ct G yX11_look cX11_look 6 (some .int) 9 200 [.ref t, .int x1_] M (some (.int r)) M' := by
  refine ct_i hW (by decide +kernel) (Nat.le_of_ble_eq_true rfl) (fun w h hr => ?_)
  have h : Rb G cX11_look RX11 6 9 200 w := h
  refine (?_ : E (fun q => q = (r, M')) (f_X11_look t x1_ M) (w M 0 [(0, .ref t), (1, .int x1_)] [])) _ hf rfl
  unfold f_X11_look
  refine E.m (h.aload_n 0 dX11_look_0 rfl) ?_
  refine E.bnd (fun _ M2 => w M2 4 [(0, .ref t), (1, .int x1_)] []) (fun _ M2 hf k => h.callV (As := []) (rest := []) (c_X11_ready hW h0 hf) lm_X11_ready lv_m_X11_ready ll_RX11_247 h0 lc_11 rfl rfl (Nat.le_of_ble_eq_true rfl) (by decide) dX11_look_1 rfl k) (fun _ M2 => ?_)
  refine E.m (h.iload_n 1 dX11_look_4 rfl) ?_
  refine E.m (h.i2l dX11_look_5) ?_
  refine E.m (h.lconst (v := (0 : Int64)) dX11_look_6 (by decide)) ?_
  refine E.m (h.lconst (v := (1 : Int64)) dX11_look_7 (by decide)) ?_
  refine E.bnd (fun u3 M4 => w M4 11 [(0, .ref t), (1, .int x1_)] [.int u3]) (fun u3 M4 hf k => h.callS (As := [.long x1_.toInt64, .long (0 : Int64), .long (1 : Int64)]) (rest := []) (c_X11_isIn hW hf) lm_X11_isIn ls_m_X11_isIn ll_RX11_358 rfl rfl (Nat.le_of_ble_eq_true rfl) (by decide) dX11_look_8 rfl k) (fun u3 M4 => ?_)
  refine E.br (fun k1 k2 => h.if_ne (tgt := 20) dX11_look_11 (by decide) k2 k1) ?_ ?_
  · refine E.m (h.aload_n 0 dX11_look_14 rfl) ?_
    refine E.m (h.iconst (v := (1 : Int32)) dX11_look_15 (by decide)) ?_
    refine E.bnd (fun u18 M19 => w M19 19 [(0, .ref t), (1, .int x1_)] [.int u18]) (fun u18 M19 hf k => h.callV (As := [.int (1 : Int32)]) (rest := []) (c_X11_fail hW h0 hf) lm_X11_fail lv_m_X11_fail ll_RX11_250 h0 lc_11 rfl rfl (Nat.le_of_ble_eq_true rfl) (by decide) dX11_look_16 rfl k) (fun u18 M19 => ?_)
    exact E.some (ret_i hr rfl dX11_look_19)
  · refine E.m (h.aload_n 0 dX11_look_20 rfl) ?_
    refine E.bnd (fun _ M6 => w M6 24 [(0, .ref t), (1, .int x1_)] []) (fun _ M6 hf k => h.callV (As := []) (rest := []) (c_X11_tellFits hW h0 hf) lm_X11_tellFits lv_m_X11_tellFits ll_RX11_441 h0 lc_11 rfl rfl (Nat.le_of_ble_eq_true rfl) (by decide) dX11_look_21 rfl k) (fun _ M6 => ?_)
    refine E.m (h.iconst (v := (-1 : Int32)) dX11_look_24 (by decide)) ?_
    refine E.m (h.istore_n dX11_look_25 (by decide) rfl) ?_
    refine E.m (h.iconst (v := (0 : Int32)) dX11_look_26 (by decide)) ?_
    refine E.m (h.istore_n dX11_look_27 (by decide) rfl) ?_
    refine E.m (h.iconst (v := (0 : Int32)) dX11_look_28 (by decide)) ?_
    refine E.m (h.istore dX11_look_29 (by decide) rfl) ?_
    refine E.m (h.sub [3, 4, 2, 1, 0] rfl) ?_
    refine E.loop4 (fun k7 k8 k9 M10 => w M10 31 [(0, .ref t), (1, .int x1_), (2, .int k7), (3, .int k8), (4, .int k9)] []) (fun k7 k8 k9 M10 => ?_) _ _ _ _ _
    unfold l_X11_look_31
    refine E.m (h.iload 4 dX11_look_31 rfl) ?_
    refine E.m (h.iconst (v := (5 : Int32)) dX11_look_33 (by decide)) ?_
    refine E.br (fun k1 k2 => h.icmp_ge (tgt := 71) dX11_look_34 (by decide) k1 k2) ?_ ?_
    · refine E.m (h.iload_n 1 dX11_look_71 rfl) ?_
      refine E.join1 (fun z11 => w M10 80 [(0, .ref t), (1, .int x1_), (2, .int k7), (3, .int k8), (4, .int k9)] [.int z11]) (fun z11 => ?_) (fun J80 hJ80 => ?_)
      · exact E.some (ret_i hr rfl dX11_look_80)
      refine E.br (fun k1 k2 => h.if_ne (tgt := 79) dX11_look_72 (by decide) k2 k1) ?_ ?_
      · refine E.m (h.iload_n 2 dX11_look_75 rfl) ?_
        refine E.m (h.goto (tgt := 80) dX11_look_76 (by decide)) ?_
        exact hJ80 _
      · refine E.m (h.iload_n 3 dX11_look_79 rfl) ?_
        exact hJ80 _
    · refine E.m (h.aload_n 0 dX11_look_37 rfl) ?_
      refine E.m (h.iload 4 dX11_look_38 rfl) ?_
      refine E.bnd (fun u12 M13 => w M13 43 [(0, .ref t), (1, .int x1_), (2, .int k7), (3, .int k8), (4, .int k9)] [.int u12]) (fun u12 M13 hf k => h.callV (As := [.int k9]) (rest := []) (c_X11_unlikeAt hW h0 hf) lm_X11_unlikeAt lv_m_X11_unlikeAt ll_RX11_444 h0 lc_11 rfl rfl (Nat.le_of_ble_eq_true rfl) (by decide) dX11_look_40 rfl k) (fun u12 M13 => ?_)
      refine E.m (h.istore dX11_look_43 (by decide) rfl) ?_
      refine E.m (h.iload 0 dX11_look_45 rfl) ?_
      refine E.m (h.iload_n 4 dX11_look_47 rfl) ?_
      refine E.join2 (fun z14 z15 => w M13 65 [(0, .ref t), (1, .int x1_), (2, .int z14), (3, .int z15), (4, .int k9), (5, .int u12)] []) (fun z14 z15 => ?_) (fun J65 hJ65 => ?_)
      · refine E.m (h.iinc (v := (1 : Int32)) 4 dX11_look_65 rfl (by decide) (by decide) rfl) ?_
        refine E.nmL (fun y16 => ?_)
        refine E.m (h.goto (tgt := 31) dX11_look_68 (by decide)) ?_
        refine E.m (h.sub [1, 2, 3, 4, 0] rfl) ?_
        exact E.some (fun q => q)
      refine E.br (fun k1 k2 => h.icmp_gt (tgt := 54) dX11_look_48 (by decide) k1 k2) ?_ ?_
      · refine E.m (h.bipush (v := (10 : Int32)) dX11_look_54 (by decide)) ?_
        refine E.m (h.iload 5 dX11_look_56 rfl) ?_
        refine E.m (h.iconst (v := (1 : Int32)) dX11_look_58 (by decide)) ?_
        refine E.m (h.iadd dX11_look_59) ?_
        refine E.m (h.imul dX11_look_60) ?_
        refine E.m (h.istore_n dX11_look_61 (by decide) rfl) ?_
        refine E.nmL (fun y17 => ?_)
        refine E.m (h.iload 1 dX11_look_62 rfl) ?_
        refine E.m (h.istore_n dX11_look_64 (by decide) rfl) ?_
        refine E.m (h.sub [3, 4, 1, 0, 5, 2] rfl) ?_
        exact hJ65 _ _
      · refine E.m (h.goto (tgt := 65) dX11_look_51 (by decide)) ?_
        refine E.m (h.sub [1, 2, 3, 4, 5, 0] rfl) ?_
        exact hJ65 _ _
def f_X11_forget (t : Nat) (M : Mem) : Option (Unit × Mem) :=
  bd (f_X11_ready t M) (fun _ M2 => nm (wi M2 t 32 (0 : Int32)) (fun M3 => some ((), M3)))
set_option maxRecDepth 20000 in
theorem c_X11_forget {G : Ctx} (hW : WFG G) {t : Nat} {M M' : Mem} (h0 : hs G t (0, 11)) (hf : f_X11_forget t M = some ((), M')) : Ct G yX11_forget cX11_forget 1 none 3 62 [.ref t] M none M' := by
  refine ct_v hW (by decide +kernel) (Nat.le_of_ble_eq_true rfl) (fun w h hr => ?_)
  have h : Rb G cX11_forget RX11 1 3 62 w := h
  refine (?_ : E (fun q => q = ((), M')) (f_X11_forget t M) (w M 0 [(0, .ref t)] [])) _ hf rfl
  unfold f_X11_forget
  refine E.m (h.aload_n 0 dX11_forget_0 rfl) ?_
  refine E.bnd (fun _ M2 => w M2 4 [(0, .ref t)] []) (fun _ M2 hf k => h.callV (As := []) (rest := []) (c_X11_ready hW h0 hf) lm_X11_ready lv_m_X11_ready ll_RX11_247 h0 lc_11 rfl rfl (Nat.le_of_ble_eq_true rfl) (by decide) dX11_forget_1 rfl k) (fun _ M2 => ?_)
  refine E.m (h.aload_n 0 dX11_forget_4 rfl) ?_
  refine E.m (h.iconst (v := (0 : Int32)) dX11_forget_5 (by decide)) ?_
  refine E.m (h.puti h0 lp_RX11_281 rfl dX11_forget_6) ?_
  refine E.nmM (fun M3 => ?_)
  exact E.some (ret_v hr dX11_forget_9)
def l_X11_storms_57 (t : Nat) (x1_ : Int32) (x2_ : Int32) (k12 : Int32) (k13 : Int32) (k15 : Int32) (k16 : Int32) (M17 : Mem) : Option ((Int32 × Int32 × Mem) ⊕ ((Int32 × Int32 × Mem) ⊕ (Int32 × Mem))) :=
  if x1_ ≤ k16 then (nm (wi M17 t 29 x1_) (fun M18 => nm (wi M18 t 30 k13) (fun M19 => bd (f_X11_goOn t (80 : Int32) M19) (fun _ M21 => jn1 (fun z22 => nm (k12 + z22) (fun y23 => nm (wi M21 t 29 (0 : Int32)) (fun M24 => bd (f_X11_back t (0 : Int32) M24) (fun u25 M26 => nm (k13 + (1 : Int32)) (fun y27 => some (.inr (.inl (y23, y27, M26)))))))) (fun J133 => if (M21.1 (t + 8) 7) = (M21.1 (t + 16) 7) then (J133 k15) else (J133 (0 : Int32))))))) else (bd (f_X11_isOf k13 k16 M17) (fun u28 M29 => jn1 (fun z30 => nm (k15 * z30) (fun y31 => nm (k16 + (1 : Int32)) (fun y32 => some (.inl (y31, y32, M29))))) (fun J83 => if u28 = 0 then (J83 ((10 : Int32) - x2_)) else (J83 x2_))))
def l_X11_storms_43 (t : Nat) (x1_ : Int32) (x2_ : Int32) (k12 : Int32) (k13 : Int32) (M14 : Mem) : Option ((Int32 × Int32 × Mem) ⊕ (Int32 × Mem)) :=
  if ((1 : Int32) <<< (x1_ &&& 31)) ≤ k13 then (some (.inr (k12, M14))) else (lop3 FU (l_X11_storms_57 t x1_ x2_ k12 k13) (1 : Int32) (0 : Int32) M14)
def f_X11_storms (t : Nat) (x1_ : Int32) (x2_ : Int32) (M : Mem) : Option (Int32 × Mem) :=
  bd (f_X11_ready t M) (fun _ M2 => bd (f_X11_isIn x1_.toInt64 (1 : Int64) (5 : Int64) M2) (fun u3 M4 => jn1 (fun M5 => bd (f_X11_fail t (1 : Int32) M5) (fun u6 M7 => some (u6, M7))) (fun J28 => if u3 = 0 then (J28 M4) else (bd (f_X11_isIn x2_.toInt64 (0 : Int64) (10 : Int64) M4) (fun u8 M9 => if u8 = 0 then (J28 M9) else (bd (f_X11_rememberNow t M9) (fun _ M11 => lop3 FU (l_X11_storms_43 t x1_ x2_) (0 : Int32) (0 : Int32) M11)))))))
set_option maxRecDepth 20000 in
theorem c_X11_storms {G : Ctx} (hW : WFG G) {t : Nat} {x1_ : Int32} {x2_ : Int32} {M M' : Mem} {r : Int32} (h0 : hs G t (0, 11)) (hf : f_X11_storms t x1_ x2_ M = some (r, M')) : Ct G yX11_storms cX11_storms 7 (some .int) 8 175 [.ref t, .int x1_, .int x2_] M (some (.int r)) M' := by
  refine ct_i hW (by decide +kernel) (Nat.le_of_ble_eq_true rfl) (fun w h hr => ?_)
  have h : Rb G cX11_storms RX11 7 8 175 w := h
  refine (?_ : E (fun q => q = (r, M')) (f_X11_storms t x1_ x2_ M) (w M 0 [(0, .ref t), (1, .int x1_), (2, .int x2_)] [])) _ hf rfl
  unfold f_X11_storms
  refine E.m (h.aload_n 0 dX11_storms_0 rfl) ?_
  refine E.bnd (fun _ M2 => w M2 4 [(0, .ref t), (1, .int x1_), (2, .int x2_)] []) (fun _ M2 hf k => h.callV (As := []) (rest := []) (c_X11_ready hW h0 hf) lm_X11_ready lv_m_X11_ready ll_RX11_247 h0 lc_11 rfl rfl (Nat.le_of_ble_eq_true rfl) (by decide) dX11_storms_1 rfl k) (fun _ M2 => ?_)
  refine E.m (h.iload_n 1 dX11_storms_4 rfl) ?_
  refine E.m (h.i2l dX11_storms_5) ?_
  refine E.m (h.lconst (v := (1 : Int64)) dX11_storms_6 (by decide)) ?_
  refine E.m (h.ldc2 lj_RX11_398 dX11_storms_7) ?_
  refine E.bnd (fun u3 M4 => w M4 13 [(0, .ref t), (1, .int x1_), (2, .int x2_)] [.int u3]) (fun u3 M4 hf k => h.callS (As := [.long x1_.toInt64, .long (1 : Int64), .long (5 : Int64)]) (rest := []) (c_X11_isIn hW hf) lm_X11_isIn ls_m_X11_isIn ll_RX11_358 rfl rfl (Nat.le_of_ble_eq_true rfl) (by decide) dX11_storms_10 rfl k) (fun u3 M4 => ?_)
  refine E.join1 (fun M5 => w M5 28 [(0, .ref t), (1, .int x1_), (2, .int x2_)] []) (fun M5 => ?_) (fun J28 hJ28 => ?_)
  · refine E.m (h.aload_n 0 dX11_storms_28 rfl) ?_
    refine E.m (h.iconst (v := (1 : Int32)) dX11_storms_29 (by decide)) ?_
    refine E.bnd (fun u6 M7 => w M7 33 [(0, .ref t), (1, .int x1_), (2, .int x2_)] [.int u6]) (fun u6 M7 hf k => h.callV (As := [.int (1 : Int32)]) (rest := []) (c_X11_fail hW h0 hf) lm_X11_fail lv_m_X11_fail ll_RX11_250 h0 lc_11 rfl rfl (Nat.le_of_ble_eq_true rfl) (by decide) dX11_storms_30 rfl k) (fun u6 M7 => ?_)
    exact E.some (ret_i hr rfl dX11_storms_33)
  refine E.br (fun k1 k2 => h.if_eq (tgt := 28) dX11_storms_13 (by decide) k1 k2) ?_ ?_
  · exact hJ28 _
  · refine E.m (h.iload_n 2 dX11_storms_16 rfl) ?_
    refine E.m (h.i2l dX11_storms_17) ?_
    refine E.m (h.lconst (v := (0 : Int64)) dX11_storms_18 (by decide)) ?_
    refine E.m (h.ldc2 lj_RX11_447 dX11_storms_19) ?_
    refine E.bnd (fun u8 M9 => w M9 25 [(0, .ref t), (1, .int x1_), (2, .int x2_)] [.int u8]) (fun u8 M9 hf k => h.callS (As := [.long x2_.toInt64, .long (0 : Int64), .long (10 : Int64)]) (rest := []) (c_X11_isIn hW hf) lm_X11_isIn ls_m_X11_isIn ll_RX11_358 rfl rfl (Nat.le_of_ble_eq_true rfl) (by decide) dX11_storms_22 rfl k) (fun u8 M9 => ?_)
    refine E.br (fun k1 k2 => h.if_ne (tgt := 34) dX11_storms_25 (by decide) k2 k1) ?_ ?_
    · exact hJ28 _
    · refine E.m (h.iconst (v := (0 : Int32)) dX11_storms_34 (by decide)) ?_
      refine E.m (h.istore_n dX11_storms_35 (by decide) rfl) ?_
      refine E.m (h.aload_n 1 dX11_storms_36 rfl) ?_
      refine E.bnd (fun _ M11 => w M11 40 [(3, .int (0 : Int32)), (0, .ref t), (1, .int x1_), (2, .int x2_)] []) (fun _ M11 hf k => h.callV (As := []) (rest := []) (c_X11_rememberNow hW h0 hf) lm_X11_rememberNow lv_m_X11_rememberNow ll_RX11_402 h0 lc_11 rfl rfl (Nat.le_of_ble_eq_true rfl) (by decide) dX11_storms_37 rfl k) (fun _ M11 => ?_)
      refine E.m (h.iconst (v := (0 : Int32)) dX11_storms_40 (by decide)) ?_
      refine E.m (h.istore dX11_storms_41 (by decide) rfl) ?_
      refine E.m (h.sub [2, 3, 4, 1, 0] rfl) ?_
      refine E.loop3 (fun k12 k13 M14 => w M14 43 [(0, .ref t), (1, .int x1_), (2, .int x2_), (3, .int k12), (4, .int k13)] []) (fun k12 k13 M14 => ?_) _ _ _ _
      unfold l_X11_storms_43
      refine E.m (h.iload 4 dX11_storms_43 rfl) ?_
      refine E.m (h.iconst (v := (1 : Int32)) dX11_storms_45 (by decide)) ?_
      refine E.m (h.iload_n 1 dX11_storms_46 rfl) ?_
      refine E.m (h.ishl dX11_storms_47) ?_
      refine E.br (fun k1 k2 => h.icmp_ge (tgt := 152) dX11_storms_48 (by decide) k1 k2) ?_ ?_
      · refine E.m (h.iload_n 3 dX11_storms_152 rfl) ?_
        exact E.some (ret_i hr rfl dX11_storms_153)
      · refine E.m (h.iconst (v := (1 : Int32)) dX11_storms_51 (by decide)) ?_
        refine E.m (h.istore dX11_storms_52 (by decide) rfl) ?_
        refine E.m (h.iconst (v := (0 : Int32)) dX11_storms_54 (by decide)) ?_
        refine E.m (h.istore dX11_storms_55 (by decide) rfl) ?_
        refine E.m (h.sub [2, 3, 4, 5, 6, 1, 0] rfl) ?_
        refine E.loop3 (fun k15 k16 M17 => w M17 57 [(0, .ref t), (1, .int x1_), (2, .int x2_), (3, .int k12), (4, .int k13), (5, .int k15), (6, .int k16)] []) (fun k15 k16 M17 => ?_) _ _ _ _
        unfold l_X11_storms_57
        refine E.m (h.iload 6 dX11_storms_57 rfl) ?_
        refine E.m (h.iload_n 1 dX11_storms_59 rfl) ?_
        refine E.br (fun k1 k2 => h.icmp_ge (tgt := 92) dX11_storms_60 (by decide) k1 k2) ?_ ?_
        · refine E.m (h.aload_n 0 dX11_storms_92 rfl) ?_
          refine E.m (h.iload_n 1 dX11_storms_93 rfl) ?_
          refine E.m (h.puti h0 lp_RX11_298 rfl dX11_storms_94) ?_
          refine E.nmM (fun M18 => ?_)
          refine E.m (h.aload_n 0 dX11_storms_97 rfl) ?_
          refine E.m (h.iload 4 dX11_storms_98 rfl) ?_
          refine E.m (h.puti h0 lp_RX11_301 rfl dX11_storms_100) ?_
          refine E.nmM (fun M19 => ?_)
          refine E.m (h.aload_n 0 dX11_storms_103 rfl) ?_
          refine E.m (h.bipush (v := (80 : Int32)) dX11_storms_104 (by decide)) ?_
          refine E.bnd (fun _ M21 => w M21 109 [(0, .ref t), (1, .int x1_), (2, .int x2_), (3, .int k12), (4, .int k13), (5, .int k15), (6, .int k16)] []) (fun _ M21 hf k => h.callV (As := [.int (80 : Int32)]) (rest := []) (c_X11_goOn hW h0 hf) lm_X11_goOn lv_m_X11_goOn ll_RX11_387 h0 lc_11 rfl rfl (Nat.le_of_ble_eq_true rfl) (by decide) dX11_storms_106 rfl k) (fun _ M21 => ?_)
          refine E.m (h.iload_n 3 dX11_storms_109 rfl) ?_
          refine E.m (h.aload_n 0 dX11_storms_110 rfl) ?_
          refine E.m (h.get h0 lf_RX11_59 dX11_storms_111 fv_11_8) ?_
          refine E.m (h.bipush (v := (7 : Int32)) dX11_storms_114 (by decide)) ?_
          refine E.m (h.ialdk (k := 7) (hW.clo 47 h0 rfl) (by decide) rfl dX11_storms_116) ?_
          refine E.m (h.aload_n 0 dX11_storms_117 rfl) ?_
          refine E.m (h.get h0 lf_RX11_88 dX11_storms_118 fv_11_34) ?_
          refine E.m (h.bipush (v := (7 : Int32)) dX11_storms_121 (by decide)) ?_
          refine E.m (h.ialdk (k := 7) (hW.clo 55 h0 rfl) (by decide) rfl dX11_storms_123) ?_
          refine E.join1 (fun z22 => w M21 133 [(0, .ref t), (1, .int x1_), (2, .int x2_), (3, .int k12), (4, .int k13), (5, .int k15), (6, .int k16)] [.int z22, .int k12]) (fun z22 => ?_) (fun J133 hJ133 => ?_)
          · refine E.m (h.iadd dX11_storms_133) ?_
            refine E.m (h.istore_n dX11_storms_134 (by decide) rfl) ?_
            refine E.nmL (fun y23 => ?_)
            refine E.m (h.aload_n 1 dX11_storms_135 rfl) ?_
            refine E.m (h.iconst (v := (0 : Int32)) dX11_storms_136 (by decide)) ?_
            refine E.m (h.puti h0 lp_RX11_298 rfl dX11_storms_137) ?_
            refine E.nmM (fun M24 => ?_)
            refine E.m (h.aload_n 1 dX11_storms_140 rfl) ?_
            refine E.m (h.iconst (v := (0 : Int32)) dX11_storms_141 (by decide)) ?_
            refine E.bnd (fun u25 M26 => w M26 145 [(3, .int y23), (0, .ref t), (1, .int x1_), (2, .int x2_), (4, .int k13), (5, .int k15), (6, .int k16)] [.int u25]) (fun u25 M26 hf k => h.callV (As := [.int (0 : Int32)]) (rest := []) (c_X11_back hW h0 hf) lm_X11_back lv_m_X11_back ll_RX11_405 h0 lc_11 rfl rfl (Nat.le_of_ble_eq_true rfl) (by decide) dX11_storms_142 rfl k) (fun u25 M26 => ?_)
            refine E.m (h.pop dX11_storms_145 rfl) ?_
            refine E.m (h.iinc (v := (1 : Int32)) 4 dX11_storms_146 rfl (by decide) (by decide) rfl) ?_
            refine E.nmL (fun y27 => ?_)
            refine E.m (h.goto (tgt := 43) dX11_storms_149 (by decide)) ?_
            refine E.m (h.sub [2, 3, 4, 1, 0] rfl) ?_
            exact E.some (fun q => q)
          refine E.br (fun k1 k2 => h.icmp_ne (tgt := 132) dX11_storms_124 (by decide) k2 k1) ?_ ?_
          · refine E.m (h.iload 5 dX11_storms_127 rfl) ?_
            refine E.m (h.goto (tgt := 133) dX11_storms_129 (by decide)) ?_
            exact hJ133 _
          · refine E.m (h.iconst (v := (0 : Int32)) dX11_storms_132 (by decide)) ?_
            exact hJ133 _
        · refine E.m (h.iload 5 dX11_storms_63 rfl) ?_
          refine E.m (h.iload 4 dX11_storms_65 rfl) ?_
          refine E.m (h.iload 6 dX11_storms_67 rfl) ?_
          refine E.bnd (fun u28 M29 => w M29 72 [(0, .ref t), (1, .int x1_), (2, .int x2_), (3, .int k12), (4, .int k13), (5, .int k15), (6, .int k16)] [.int u28, .int k15]) (fun u28 M29 hf k => h.callS (As := [.int k13, .int k16]) (rest := [.int k15]) (c_X11_isOf hW hf) lm_X11_isOf ls_m_X11_isOf ll_RX11_240 rfl rfl (Nat.le_of_ble_eq_true rfl) (by decide) dX11_storms_69 rfl k) (fun u28 M29 => ?_)
          refine E.join1 (fun z30 => w M29 83 [(0, .ref t), (1, .int x1_), (2, .int x2_), (3, .int k12), (4, .int k13), (5, .int k15), (6, .int k16)] [.int z30, .int k15]) (fun z30 => ?_) (fun J83 hJ83 => ?_)
          · refine E.m (h.imul dX11_storms_83) ?_
            refine E.m (h.istore dX11_storms_84 (by decide) rfl) ?_
            refine E.nmL (fun y31 => ?_)
            refine E.m (h.iinc (v := (1 : Int32)) 6 dX11_storms_86 rfl (by decide) (by decide) rfl) ?_
            refine E.nmL (fun y32 => ?_)
            refine E.m (h.goto (tgt := 57) dX11_storms_89 (by decide)) ?_
            refine E.m (h.sub [2, 3, 4, 5, 6, 1, 0] rfl) ?_
            exact E.some (fun q => q)
          refine E.br (fun k1 k2 => h.if_eq (tgt := 79) dX11_storms_72 (by decide) k1 k2) ?_ ?_
          · refine E.m (h.bipush (v := (10 : Int32)) dX11_storms_79 (by decide)) ?_
            refine E.m (h.iload_n 2 dX11_storms_81 rfl) ?_
            refine E.m (h.isub dX11_storms_82) ?_
            exact hJ83 _
          · refine E.m (h.iload_n 2 dX11_storms_75 rfl) ?_
            refine E.m (h.goto (tgt := 83) dX11_storms_76 (by decide)) ?_
            exact hJ83 _
def f_X11_drawOf (t : Nat) (x1_ : Int32) (M : Mem) : Option (Int32 × Mem) :=
  nm (wi M t 43 (((M.1 t 43) * (1103515245 : Int32)) + (12345 : Int32))) (fun M1 => gdp (¬ x1_ = 0) (some ((((M1.1 t 43) >>> ((16 : Int32) &&& 31)) &&& (32767 : Int32)) - (((M1.1 t 43) >>> ((16 : Int32) &&& 31)) &&& (32767 : Int32)) / x1_ * x1_, M1)))
set_option maxRecDepth 20000 in
theorem c_X11_drawOf {G : Ctx} (hW : WFG G) {t : Nat} {x1_ : Int32} {M M' : Mem} {r : Int32} (h0 : hs G t (0, 11)) (hf : f_X11_drawOf t x1_ M = some (r, M')) : Ct G yX11_drawOf cX11_drawOf 2 (some .int) 0 0 [.ref t, .int x1_] M (some (.int r)) M' := by
  refine ct_i hW (by decide +kernel) (Nat.le_of_ble_eq_true rfl) (fun w h hr => ?_)
  have h : Rb G cX11_drawOf RX11 2 0 0 w := h
  refine (?_ : E (fun q => q = (r, M')) (f_X11_drawOf t x1_ M) (w M 0 [(0, .ref t), (1, .int x1_)] [])) _ hf rfl
  unfold f_X11_drawOf
  refine E.m (h.aload_n 0 dX11_drawOf_0 rfl) ?_
  refine E.m (h.aload_n 0 dX11_drawOf_1 rfl) ?_
  refine E.m (h.get h0 lf_RX11_449 dX11_drawOf_2 fv_11_43) ?_
  refine E.m (h.ldcw li_RX11_452 dX11_drawOf_5) ?_
  refine E.m (h.imul dX11_drawOf_8) ?_
  refine E.m (h.sipush (v := (12345 : Int32)) dX11_drawOf_9 (by decide)) ?_
  refine E.m (h.iadd dX11_drawOf_12) ?_
  refine E.m (h.puti h0 lp_RX11_449 rfl dX11_drawOf_13) ?_
  refine E.nmM (fun M1 => ?_)
  refine E.m (h.aload_n 0 dX11_drawOf_16 rfl) ?_
  refine E.m (h.get h0 lf_RX11_449 dX11_drawOf_17 fv_11_43) ?_
  refine E.m (h.bipush (v := (16 : Int32)) dX11_drawOf_20 (by decide)) ?_
  refine E.m (h.ishr dX11_drawOf_22) ?_
  refine E.m (h.sipush (v := (32767 : Int32)) dX11_drawOf_23 (by decide)) ?_
  refine E.m (h.iand dX11_drawOf_26) ?_
  refine E.m (h.iload_n 1 dX11_drawOf_27 rfl) ?_
  refine E.gd (fun hc k => h.irem hc dX11_drawOf_28 k) (fun _ => ?_)
  exact E.some (ret_i hr rfl dX11_drawOf_29)
def l_X11_years_55 (t : Nat) (x2_ : Int32) (x3_ : Int32) (k10 : Int32) (k11 : Int32) (M12 : Mem) : Option ((Int32 × Int32 × Mem) ⊕ (Int32 × Mem)) :=
  if x2_ ≤ k11 then (jn1 (fun z13 => bd (f_X11_back t z13 M12) (fun u14 M15 => some (.inr (u14, M15)))) (fun J197 => if x3_ = 0 then (J197 ((M12.1 (t + 8) 7) - (M12.1 (t + 16) 7))) else (if x3_ = (1 : Int32) then (J197 ((M12.1 (t + 8) 12) - (M12.1 (t + 16) 12))) else (J197 k10)))) else (bd (f_X11_drawOf t (5 : Int32) M12) (fun u16 M17 => jn1 (fun M18 => jn1 (fun M19 => jn1 (fun M20 => bd (f_X11_goOn t (10 : Int32) M20) (fun _ M22 => bd (f_X11_levelNow t M22) (fun u23 M24 => bd (f_J9_max_7cf53 k10 u23 M24) (fun u25 M26 => nm (k11 + (1 : Int32)) (fun y27 => some (.inl (u25, y27, M26))))))) (fun J126 => if u16 = (2 : Int32) then (bd (f_X11_drawOf t (41 : Int32) M19) (fun u28 M29 => nm (wi M29 (t + 8) 27 (u28 - (20 : Int32))) (fun M30 => J126 M30))) else (J126 M19))) (fun J104 => if u16 = (1 : Int32) then (bd (f_X11_drawOf t (12 : Int32) M18) (fun u31 M32 => nm (wi M32 (t + 8) 26 u31) (fun M33 => J104 M33))) else (J104 M18))) (fun J85 => if u16 = 0 then (bd (f_X11_drawOf t (4 : Int32) M17) (fun u34 M35 => nm (wi M35 (t + 8) 25 u34) (fun M36 => J85 M36))) else (J85 M17))))
def f_X11_years (t : Nat) (x1_ : Int32) (x2_ : Int32) (x3_ : Int32) (M : Mem) : Option (Int32 × Mem) :=
  bd (f_X11_ready t M) (fun _ M2 => bd (f_X11_isIn x3_.toInt64 (0 : Int64) (2 : Int64) M2) (fun u3 M4 => if u3 = 0 then (bd (f_X11_fail t (1 : Int32) M4) (fun u39 M40 => some (u39, M40))) else (bd (f_X11_isIn x2_.toInt64 (0 : Int64) (60 : Int64) M4) (fun u5 M6 => if u5 = 0 then (bd (f_X11_fail t (2 : Int32) M6) (fun u37 M38 => some (u37, M38))) else (bd (f_X11_rememberNow t M6) (fun _ M8 => nm (wi M8 t 43 x1_) (fun M9 => lop3 FU (l_X11_years_55 t x2_ x3_) (0 : Int32) (0 : Int32) M9)))))))
set_option maxRecDepth 20000 in
theorem c_X11_years {G : Ctx} (hW : WFG G) {t : Nat} {x1_ : Int32} {x2_ : Int32} {x3_ : Int32} {M M' : Mem} {r : Int32} (h0 : hs G t (0, 11)) (hf : f_X11_years t x1_ x2_ x3_ M = some (r, M')) : Ct G yX11_years cX11_years 7 (some .int) 8 175 [.ref t, .int x1_, .int x2_, .int x3_] M (some (.int r)) M' := by
  refine ct_i hW (by decide +kernel) (Nat.le_of_ble_eq_true rfl) (fun w h hr => ?_)
  have h : Rb G cX11_years RX11 7 8 175 w := h
  refine (?_ : E (fun q => q = (r, M')) (f_X11_years t x1_ x2_ x3_ M) (w M 0 [(0, .ref t), (1, .int x1_), (2, .int x2_), (3, .int x3_)] [])) _ hf rfl
  unfold f_X11_years
  refine E.m (h.aload_n 0 dX11_years_0 rfl) ?_
  refine E.bnd (fun _ M2 => w M2 4 [(0, .ref t), (1, .int x1_), (2, .int x2_), (3, .int x3_)] []) (fun _ M2 hf k => h.callV (As := []) (rest := []) (c_X11_ready hW h0 hf) lm_X11_ready lv_m_X11_ready ll_RX11_247 h0 lc_11 rfl rfl (Nat.le_of_ble_eq_true rfl) (by decide) dX11_years_1 rfl k) (fun _ M2 => ?_)
  refine E.m (h.iload_n 3 dX11_years_4 rfl) ?_
  refine E.m (h.i2l dX11_years_5) ?_
  refine E.m (h.lconst (v := (0 : Int64)) dX11_years_6 (by decide)) ?_
  refine E.m (h.ldc2 lj_RX11_362 dX11_years_7) ?_
  refine E.bnd (fun u3 M4 => w M4 13 [(0, .ref t), (1, .int x1_), (2, .int x2_), (3, .int x3_)] [.int u3]) (fun u3 M4 hf k => h.callS (As := [.long x3_.toInt64, .long (0 : Int64), .long (2 : Int64)]) (rest := []) (c_X11_isIn hW hf) lm_X11_isIn ls_m_X11_isIn ll_RX11_358 rfl rfl (Nat.le_of_ble_eq_true rfl) (by decide) dX11_years_10 rfl k) (fun u3 M4 => ?_)
  refine E.br (fun k1 k2 => h.if_ne (tgt := 22) dX11_years_13 (by decide) k2 k1) ?_ ?_
  · refine E.m (h.aload_n 0 dX11_years_16 rfl) ?_
    refine E.m (h.iconst (v := (1 : Int32)) dX11_years_17 (by decide)) ?_
    refine E.bnd (fun u39 M40 => w M40 21 [(0, .ref t), (1, .int x1_), (2, .int x2_), (3, .int x3_)] [.int u39]) (fun u39 M40 hf k => h.callV (As := [.int (1 : Int32)]) (rest := []) (c_X11_fail hW h0 hf) lm_X11_fail lv_m_X11_fail ll_RX11_250 h0 lc_11 rfl rfl (Nat.le_of_ble_eq_true rfl) (by decide) dX11_years_18 rfl k) (fun u39 M40 => ?_)
    exact E.some (ret_i hr rfl dX11_years_21)
  · refine E.m (h.iload_n 2 dX11_years_22 rfl) ?_
    refine E.m (h.i2l dX11_years_23) ?_
    refine E.m (h.lconst (v := (0 : Int64)) dX11_years_24 (by decide)) ?_
    refine E.m (h.ldc2 lj_RX11_431 dX11_years_25) ?_
    refine E.bnd (fun u5 M6 => w M6 31 [(0, .ref t), (1, .int x1_), (2, .int x2_), (3, .int x3_)] [.int u5]) (fun u5 M6 hf k => h.callS (As := [.long x2_.toInt64, .long (0 : Int64), .long (60 : Int64)]) (rest := []) (c_X11_isIn hW hf) lm_X11_isIn ls_m_X11_isIn ll_RX11_358 rfl rfl (Nat.le_of_ble_eq_true rfl) (by decide) dX11_years_28 rfl k) (fun u5 M6 => ?_)
    refine E.br (fun k1 k2 => h.if_ne (tgt := 40) dX11_years_31 (by decide) k2 k1) ?_ ?_
    · refine E.m (h.aload_n 0 dX11_years_34 rfl) ?_
      refine E.m (h.iconst (v := (2 : Int32)) dX11_years_35 (by decide)) ?_
      refine E.bnd (fun u37 M38 => w M38 39 [(0, .ref t), (1, .int x1_), (2, .int x2_), (3, .int x3_)] [.int u37]) (fun u37 M38 hf k => h.callV (As := [.int (2 : Int32)]) (rest := []) (c_X11_fail hW h0 hf) lm_X11_fail lv_m_X11_fail ll_RX11_250 h0 lc_11 rfl rfl (Nat.le_of_ble_eq_true rfl) (by decide) dX11_years_36 rfl k) (fun u37 M38 => ?_)
      exact E.some (ret_i hr rfl dX11_years_39)
    · refine E.m (h.aload_n 0 dX11_years_40 rfl) ?_
      refine E.bnd (fun _ M8 => w M8 44 [(0, .ref t), (1, .int x1_), (2, .int x2_), (3, .int x3_)] []) (fun _ M8 hf k => h.callV (As := []) (rest := []) (c_X11_rememberNow hW h0 hf) lm_X11_rememberNow lv_m_X11_rememberNow ll_RX11_402 h0 lc_11 rfl rfl (Nat.le_of_ble_eq_true rfl) (by decide) dX11_years_41 rfl k) (fun _ M8 => ?_)
      refine E.m (h.aload_n 0 dX11_years_44 rfl) ?_
      refine E.m (h.iload_n 1 dX11_years_45 rfl) ?_
      refine E.m (h.puti h0 lp_RX11_449 rfl dX11_years_46) ?_
      refine E.nmM (fun M9 => ?_)
      refine E.m (h.iconst (v := (0 : Int32)) dX11_years_49 (by decide)) ?_
      refine E.m (h.istore dX11_years_50 (by decide) rfl) ?_
      refine E.m (h.iconst (v := (0 : Int32)) dX11_years_52 (by decide)) ?_
      refine E.m (h.istore dX11_years_53 (by decide) rfl) ?_
      refine E.m (h.sub [2, 3, 4, 5, 1, 0] rfl) ?_
      refine E.loop3 (fun k10 k11 M12 => w M12 55 [(0, .ref t), (1, .int x1_), (2, .int x2_), (3, .int x3_), (4, .int k10), (5, .int k11)] []) (fun k10 k11 M12 => ?_) _ _ _ _
      unfold l_X11_years_55
      refine E.m (h.iload 5 dX11_years_55 rfl) ?_
      refine E.m (h.iload_n 2 dX11_years_57 rfl) ?_
      refine E.br (fun k1 k2 => h.icmp_ge (tgt := 149) dX11_years_58 (by decide) k1 k2) ?_ ?_
      · refine E.m (h.aload_n 0 dX11_years_149 rfl) ?_
        refine E.m (h.iload_n 3 dX11_years_150 rfl) ?_
        refine E.join1 (fun z13 => w M12 197 [(0, .ref t), (1, .int x1_), (2, .int x2_), (3, .int x3_), (4, .int k10), (5, .int k11)] [.int z13, .ref t]) (fun z13 => ?_) (fun J197 hJ197 => ?_)
        · refine E.bnd (fun u14 M15 => w M15 200 [(0, .ref t), (1, .int x1_), (2, .int x2_), (3, .int x3_), (4, .int k10), (5, .int k11)] [.int u14]) (fun u14 M15 hf k => h.callV (As := [.int z13]) (rest := []) (c_X11_back hW h0 hf) lm_X11_back lv_m_X11_back ll_RX11_405 h0 lc_11 rfl rfl (Nat.le_of_ble_eq_true rfl) (by decide) dX11_years_197 rfl k) (fun u14 M15 => ?_)
          exact E.some (ret_i hr rfl dX11_years_200)
        refine E.br (fun k1 k2 => h.if_ne (tgt := 172) dX11_years_151 (by decide) k2 k1) ?_ ?_
        · refine E.m (h.aload_n 0 dX11_years_154 rfl) ?_
          refine E.m (h.get h0 lf_RX11_59 dX11_years_155 fv_11_8) ?_
          refine E.m (h.bipush (v := (7 : Int32)) dX11_years_158 (by decide)) ?_
          refine E.m (h.ialdk (k := 7) (hW.clo 47 h0 rfl) (by decide) rfl dX11_years_160) ?_
          refine E.m (h.aload_n 0 dX11_years_161 rfl) ?_
          refine E.m (h.get h0 lf_RX11_88 dX11_years_162 fv_11_34) ?_
          refine E.m (h.bipush (v := (7 : Int32)) dX11_years_165 (by decide)) ?_
          refine E.m (h.ialdk (k := 7) (hW.clo 55 h0 rfl) (by decide) rfl dX11_years_167) ?_
          refine E.m (h.isub dX11_years_168) ?_
          refine E.m (h.goto (tgt := 197) dX11_years_169 (by decide)) ?_
          exact hJ197 _
        · refine E.m (h.iload_n 3 dX11_years_172 rfl) ?_
          refine E.m (h.iconst (v := (1 : Int32)) dX11_years_173 (by decide)) ?_
          refine E.br (fun k1 k2 => h.icmp_ne (tgt := 195) dX11_years_174 (by decide) k2 k1) ?_ ?_
          · refine E.m (h.aload_n 0 dX11_years_177 rfl) ?_
            refine E.m (h.get h0 lf_RX11_59 dX11_years_178 fv_11_8) ?_
            refine E.m (h.bipush (v := (12 : Int32)) dX11_years_181 (by decide)) ?_
            refine E.m (h.ialdk (k := 12) (hW.clo 47 h0 rfl) (by decide) rfl dX11_years_183) ?_
            refine E.m (h.aload_n 0 dX11_years_184 rfl) ?_
            refine E.m (h.get h0 lf_RX11_88 dX11_years_185 fv_11_34) ?_
            refine E.m (h.bipush (v := (12 : Int32)) dX11_years_188 (by decide)) ?_
            refine E.m (h.ialdk (k := 12) (hW.clo 55 h0 rfl) (by decide) rfl dX11_years_190) ?_
            refine E.m (h.isub dX11_years_191) ?_
            refine E.m (h.goto (tgt := 197) dX11_years_192 (by decide)) ?_
            exact hJ197 _
          · refine E.m (h.iload 4 dX11_years_195 rfl) ?_
            exact hJ197 _
      · refine E.m (h.aload_n 0 dX11_years_61 rfl) ?_
        refine E.m (h.iconst (v := (5 : Int32)) dX11_years_62 (by decide)) ?_
        refine E.bnd (fun u16 M17 => w M17 66 [(0, .ref t), (1, .int x1_), (2, .int x2_), (3, .int x3_), (4, .int k10), (5, .int k11)] [.int u16]) (fun u16 M17 hf k => h.callV (As := [.int (5 : Int32)]) (rest := []) (c_X11_drawOf hW h0 hf) lm_X11_drawOf lv_m_X11_drawOf ll_RX11_453 h0 lc_11 rfl rfl (Nat.le_of_ble_eq_true rfl) (by decide) dX11_years_63 rfl k) (fun u16 M17 => ?_)
        refine E.m (h.istore dX11_years_66 (by decide) rfl) ?_
        refine E.m (h.iload 0 dX11_years_68 rfl) ?_
        refine E.join1 (fun M18 => w M18 85 [(0, .ref t), (1, .int x1_), (2, .int x2_), (3, .int x3_), (4, .int k10), (5, .int k11), (6, .int u16)] []) (fun M18 => ?_) (fun J85 hJ85 => ?_)
        · refine E.m (h.iload 6 dX11_years_85 rfl) ?_
          refine E.m (h.iconst (v := (1 : Int32)) dX11_years_87 (by decide)) ?_
          refine E.join1 (fun M19 => w M19 104 [(0, .ref t), (1, .int x1_), (2, .int x2_), (3, .int x3_), (4, .int k10), (5, .int k11), (6, .int u16)] []) (fun M19 => ?_) (fun J104 hJ104 => ?_)
          · refine E.m (h.iload 6 dX11_years_104 rfl) ?_
            refine E.m (h.iconst (v := (2 : Int32)) dX11_years_106 (by decide)) ?_
            refine E.join1 (fun M20 => w M20 126 [(0, .ref t), (1, .int x1_), (2, .int x2_), (3, .int x3_), (4, .int k10), (5, .int k11), (6, .int u16)] []) (fun M20 => ?_) (fun J126 hJ126 => ?_)
            · refine E.m (h.aload_n 0 dX11_years_126 rfl) ?_
              refine E.m (h.bipush (v := (10 : Int32)) dX11_years_127 (by decide)) ?_
              refine E.bnd (fun _ M22 => w M22 132 [(0, .ref t), (1, .int x1_), (2, .int x2_), (3, .int x3_), (4, .int k10), (5, .int k11), (6, .int u16)] []) (fun _ M22 hf k => h.callV (As := [.int (10 : Int32)]) (rest := []) (c_X11_goOn hW h0 hf) lm_X11_goOn lv_m_X11_goOn ll_RX11_387 h0 lc_11 rfl rfl (Nat.le_of_ble_eq_true rfl) (by decide) dX11_years_129 rfl k) (fun _ M22 => ?_)
              refine E.m (h.iload 4 dX11_years_132 rfl) ?_
              refine E.m (h.aload_n 0 dX11_years_134 rfl) ?_
              refine E.bnd (fun u23 M24 => w M24 138 [(0, .ref t), (1, .int x1_), (2, .int x2_), (3, .int x3_), (4, .int k10), (5, .int k11), (6, .int u16)] [.int u23, .int k10]) (fun u23 M24 hf k => h.callV (As := []) (rest := [.int k10]) (c_X11_levelNow hW h0 hf) lm_X11_levelNow lv_m_X11_levelNow ll_RX11_325 h0 lc_11 rfl rfl (Nat.le_of_ble_eq_true rfl) (by decide) dX11_years_135 rfl k) (fun u23 M24 => ?_)
              refine E.bnd (fun u25 M26 => w M26 141 [(0, .ref t), (1, .int x1_), (2, .int x2_), (3, .int x3_), (4, .int k10), (5, .int k11), (6, .int u16)] [.int u25]) (fun u25 M26 hf k => h.callS (As := [.int k10, .int u23]) (rest := []) (c_J9_max_7cf53 hW hf) lm_J9_max_7cf53 ls_m_J9_max_7cf53 ll_RX11_130 rfl rfl (Nat.le_of_ble_eq_true rfl) (by decide) dX11_years_138 rfl k) (fun u25 M26 => ?_)
              refine E.m (h.istore dX11_years_141 (by decide) rfl) ?_
              refine E.m (h.iinc (v := (1 : Int32)) 5 dX11_years_143 rfl (by decide) (by decide) rfl) ?_
              refine E.nmL (fun y27 => ?_)
              refine E.m (h.goto (tgt := 55) dX11_years_146 (by decide)) ?_
              refine E.m (h.sub [2, 3, 4, 5, 1, 0] rfl) ?_
              exact E.some (fun q => q)
            refine E.br (fun k1 k2 => h.icmp_ne (tgt := 126) dX11_years_107 (by decide) k2 k1) ?_ ?_
            · refine E.m (h.aload_n 0 dX11_years_110 rfl) ?_
              refine E.m (h.get h0 lf_RX11_59 dX11_years_111 fv_11_8) ?_
              refine E.m (h.bipush (v := (27 : Int32)) dX11_years_114 (by decide)) ?_
              refine E.m (h.aload_n 0 dX11_years_116 rfl) ?_
              refine E.m (h.bipush (v := (41 : Int32)) dX11_years_117 (by decide)) ?_
              refine E.bnd (fun u28 M29 => w M29 122 [(0, .ref t), (1, .int x1_), (2, .int x2_), (3, .int x3_), (4, .int k10), (5, .int k11), (6, .int u16)] [.int u28, .int (27 : Int32), .ref (t + 8)]) (fun u28 M29 hf k => h.callV (As := [.int (41 : Int32)]) (rest := [.int (27 : Int32), .ref (t + 8)]) (c_X11_drawOf hW h0 hf) lm_X11_drawOf lv_m_X11_drawOf ll_RX11_453 h0 lc_11 rfl rfl (Nat.le_of_ble_eq_true rfl) (by decide) dX11_years_119 rfl k) (fun u28 M29 => ?_)
              refine E.m (h.bipush (v := (20 : Int32)) dX11_years_122 (by decide)) ?_
              refine E.m (h.isub dX11_years_124) ?_
              refine E.m (h.iastk (k := 27) (hW.clo 47 h0 rfl) (by decide) rfl dX11_years_125) ?_
              refine E.nmM (fun M30 => ?_)
              exact hJ126 _
            · exact hJ126 _
          refine E.br (fun k1 k2 => h.icmp_ne (tgt := 104) dX11_years_88 (by decide) k2 k1) ?_ ?_
          · refine E.m (h.aload_n 0 dX11_years_91 rfl) ?_
            refine E.m (h.get h0 lf_RX11_59 dX11_years_92 fv_11_8) ?_
            refine E.m (h.bipush (v := (26 : Int32)) dX11_years_95 (by decide)) ?_
            refine E.m (h.aload_n 0 dX11_years_97 rfl) ?_
            refine E.m (h.bipush (v := (12 : Int32)) dX11_years_98 (by decide)) ?_
            refine E.bnd (fun u31 M32 => w M32 103 [(0, .ref t), (1, .int x1_), (2, .int x2_), (3, .int x3_), (4, .int k10), (5, .int k11), (6, .int u16)] [.int u31, .int (26 : Int32), .ref (t + 8)]) (fun u31 M32 hf k => h.callV (As := [.int (12 : Int32)]) (rest := [.int (26 : Int32), .ref (t + 8)]) (c_X11_drawOf hW h0 hf) lm_X11_drawOf lv_m_X11_drawOf ll_RX11_453 h0 lc_11 rfl rfl (Nat.le_of_ble_eq_true rfl) (by decide) dX11_years_100 rfl k) (fun u31 M32 => ?_)
            refine E.m (h.iastk (k := 26) (hW.clo 47 h0 rfl) (by decide) rfl dX11_years_103) ?_
            refine E.nmM (fun M33 => ?_)
            exact hJ104 _
          · exact hJ104 _
        refine E.br (fun k1 k2 => h.if_ne (tgt := 85) dX11_years_70 (by decide) k2 k1) ?_ ?_
        · refine E.m (h.aload_n 1 dX11_years_73 rfl) ?_
          refine E.m (h.get h0 lf_RX11_59 dX11_years_74 fv_11_8) ?_
          refine E.m (h.bipush (v := (25 : Int32)) dX11_years_77 (by decide)) ?_
          refine E.m (h.aload_n 1 dX11_years_79 rfl) ?_
          refine E.m (h.iconst (v := (4 : Int32)) dX11_years_80 (by decide)) ?_
          refine E.bnd (fun u34 M35 => w M35 84 [(6, .int u16), (0, .ref t), (1, .int x1_), (2, .int x2_), (3, .int x3_), (4, .int k10), (5, .int k11)] [.int u34, .int (25 : Int32), .ref (t + 8)]) (fun u34 M35 hf k => h.callV (As := [.int (4 : Int32)]) (rest := [.int (25 : Int32), .ref (t + 8)]) (c_X11_drawOf hW h0 hf) lm_X11_drawOf lv_m_X11_drawOf ll_RX11_453 h0 lc_11 rfl rfl (Nat.le_of_ble_eq_true rfl) (by decide) dX11_years_81 rfl k) (fun u34 M35 => ?_)
          refine E.m (h.iastk (k := 25) (hW.clo 47 h0 rfl) (by decide) rfl dX11_years_84) ?_
          refine E.nmM (fun M36 => ?_)
          refine E.m (h.sub [1, 2, 3, 4, 5, 6, 0] rfl) ?_
          exact hJ85 _
        · refine E.m (h.sub [1, 2, 3, 4, 5, 6, 0] rfl) ?_
          exact hJ85 _
def f_X11_image (t : Nat) (M : Mem) : Option (Unit × Mem) :=
  bd (f_X11_ready t M) (fun _ M2 => nm (wi M2 t 44 (1 : Int32)) (fun M3 => nm (wi M3 t 45 (M3.1 t 31)) (fun M4 => nm (wi M4 t 46 (M4.1 t 32)) (fun M5 => bd (f_X11_copyTo (t + 22) 665 (t + 8) 665 M5) (fun _ M7 => bd (f_X11_copyTo (t + 23) 26600 (t + 15) 26600 M7) (fun _ M9 => bd (f_X11_copyTo (t + 24) 8 (t + 18) 8 M9) (fun _ M11 => bd (f_X11_copyTo (t + 25) 8 (t + 19) 8 M11) (fun _ M13 => bd (f_X11_copyTo (t + 26) 3 (t + 7) 3 M13) (fun _ M15 => some ((), M15))))))))))
set_option maxRecDepth 20000 in
theorem c_X11_image {G : Ctx} (hW : WFG G) {t : Nat} {M M' : Mem} (h0 : hs G t (0, 11)) (hf : f_X11_image t M = some ((), M')) : Ct G yX11_image cX11_image 1 none 3 62 [.ref t] M none M' := by
  refine ct_v hW (by decide +kernel) (Nat.le_of_ble_eq_true rfl) (fun w h hr => ?_)
  have h : Rb G cX11_image RX11 1 3 62 w := h
  refine (?_ : E (fun q => q = ((), M')) (f_X11_image t M) (w M 0 [(0, .ref t)] [])) _ hf rfl
  unfold f_X11_image
  refine E.m (h.aload_n 0 dX11_image_0 rfl) ?_
  refine E.bnd (fun _ M2 => w M2 4 [(0, .ref t)] []) (fun _ M2 hf k => h.callV (As := []) (rest := []) (c_X11_ready hW h0 hf) lm_X11_ready lv_m_X11_ready ll_RX11_247 h0 lc_11 rfl rfl (Nat.le_of_ble_eq_true rfl) (by decide) dX11_image_1 rfl k) (fun _ M2 => ?_)
  refine E.m (h.aload_n 0 dX11_image_4 rfl) ?_
  refine E.m (h.iconst (v := (1 : Int32)) dX11_image_5 (by decide)) ?_
  refine E.m (h.putz h0 lp_RX11_284 rfl dX11_image_6 (by decide)) ?_
  refine E.nmM (fun M3 => ?_)
  refine E.m (h.aload_n 0 dX11_image_9 rfl) ?_
  refine E.m (h.aload_n 0 dX11_image_10 rfl) ?_
  refine E.m (h.get h0 lf_RX11_278 dX11_image_11 fv_11_31) ?_
  refine E.m (h.puti h0 lp_RX11_456 rfl dX11_image_14) ?_
  refine E.nmM (fun M4 => ?_)
  refine E.m (h.aload_n 0 dX11_image_17 rfl) ?_
  refine E.m (h.aload_n 0 dX11_image_18 rfl) ?_
  refine E.m (h.get h0 lf_RX11_281 dX11_image_19 fv_11_32) ?_
  refine E.m (h.puti h0 lp_RX11_459 rfl dX11_image_22) ?_
  refine E.nmM (fun M5 => ?_)
  refine E.m (h.aload_n 0 dX11_image_25 rfl) ?_
  refine E.m (h.get h0 lf_RX11_106 dX11_image_26 fv_11_47) ?_
  refine E.m (h.aload_n 0 dX11_image_29 rfl) ?_
  refine E.m (h.get h0 lf_RX11_59 dX11_image_30 fv_11_8) ?_
  refine E.bnd (fun _ M7 => w M7 36 [(0, .ref t)] []) (fun _ M7 hf k => h.callS (As := [.ref (t + 22), .ref (t + 8)]) (rest := []) (c_X11_copyTo hW (hW.clo 61 h0 rfl) (hW.clo 47 h0 rfl) hf) lm_X11_copyTo ls_m_X11_copyTo ll_RX11_394 rfl rfl (Nat.le_of_ble_eq_true rfl) (by decide) dX11_image_33 rfl k) (fun _ M7 => ?_)
  refine E.m (h.aload_n 0 dX11_image_36 rfl) ?_
  refine E.m (h.get h0 lf_RX11_109 dX11_image_37 fv_11_48) ?_
  refine E.m (h.aload_n 0 dX11_image_40 rfl) ?_
  refine E.m (h.get h0 lf_RX11_85 dX11_image_41 fv_11_33) ?_
  refine E.bnd (fun _ M9 => w M9 47 [(0, .ref t)] []) (fun _ M9 hf k => h.callS (As := [.ref (t + 23), .ref (t + 15)]) (rest := []) (c_X11_copyTo hW (hW.clo 62 h0 rfl) (hW.clo 54 h0 rfl) hf) lm_X11_copyTo ls_m_X11_copyTo ll_RX11_394 rfl rfl (Nat.le_of_ble_eq_true rfl) (by decide) dX11_image_44 rfl k) (fun _ M9 => ?_)
  refine E.m (h.aload_n 0 dX11_image_47 rfl) ?_
  refine E.m (h.get h0 lf_RX11_112 dX11_image_48 fv_11_49) ?_
  refine E.m (h.aload_n 0 dX11_image_51 rfl) ?_
  refine E.m (h.get h0 lf_RX11_94 dX11_image_52 fv_11_38) ?_
  refine E.bnd (fun _ M11 => w M11 58 [(0, .ref t)] []) (fun _ M11 hf k => h.callS (As := [.ref (t + 24), .ref (t + 18)]) (rest := []) (c_X11_copyTo hW (hW.clo 63 h0 rfl) (hW.clo 57 h0 rfl) hf) lm_X11_copyTo ls_m_X11_copyTo ll_RX11_394 rfl rfl (Nat.le_of_ble_eq_true rfl) (by decide) dX11_image_55 rfl k) (fun _ M11 => ?_)
  refine E.m (h.aload_n 0 dX11_image_58 rfl) ?_
  refine E.m (h.get h0 lf_RX11_115 dX11_image_59 fv_11_50) ?_
  refine E.m (h.aload_n 0 dX11_image_62 rfl) ?_
  refine E.m (h.get h0 lf_RX11_97 dX11_image_63 fv_11_39) ?_
  refine E.bnd (fun _ M13 => w M13 69 [(0, .ref t)] []) (fun _ M13 hf k => h.callS (As := [.ref (t + 25), .ref (t + 19)]) (rest := []) (c_X11_copyTo hW (hW.clo 64 h0 rfl) (hW.clo 58 h0 rfl) hf) lm_X11_copyTo ls_m_X11_copyTo ll_RX11_394 rfl rfl (Nat.le_of_ble_eq_true rfl) (by decide) dX11_image_66 rfl k) (fun _ M13 => ?_)
  refine E.m (h.aload_n 0 dX11_image_69 rfl) ?_
  refine E.m (h.get h0 lf_RX11_118 dX11_image_70 fv_11_51) ?_
  refine E.m (h.aload_n 0 dX11_image_73 rfl) ?_
  refine E.m (h.get h0 lf_RX11_56 dX11_image_74 fv_11_7) ?_
  refine E.bnd (fun _ M15 => w M15 80 [(0, .ref t)] []) (fun _ M15 hf k => h.callS (As := [.ref (t + 26), .ref (t + 7)]) (rest := []) (c_X11_copyTo hW (hW.clo 65 h0 rfl) (hW.clo 46 h0 rfl) hf) lm_X11_copyTo ls_m_X11_copyTo ll_RX11_394 rfl rfl (Nat.le_of_ble_eq_true rfl) (by decide) dX11_image_77 rfl k) (fun _ M15 => ?_)
  exact E.some (ret_v hr dX11_image_80)
def f_X11_restore (t : Nat) (M : Mem) : Option (Int32 × Mem) :=
  bd (f_X11_ready t M) (fun _ M2 => if (M2.1 t 44) = 0 then (some ((0 : Int32), M2)) else (nm (wi M2 t 31 (M2.1 t 45)) (fun M3 => nm (wi M3 t 32 (M3.1 t 46)) (fun M4 => bd (f_X11_copyTo (t + 8) 665 (t + 22) 665 M4) (fun _ M6 => bd (f_X11_copyTo (t + 15) 26600 (t + 23) 26600 M6) (fun _ M8 => bd (f_X11_copyTo (t + 18) 8 (t + 24) 8 M8) (fun _ M10 => bd (f_X11_copyTo (t + 19) 8 (t + 25) 8 M10) (fun _ M12 => bd (f_X11_copyTo (t + 7) 3 (t + 26) 3 M12) (fun _ M14 => some ((1 : Int32), M14))))))))))
set_option maxRecDepth 20000 in
theorem c_X11_restore {G : Ctx} (hW : WFG G) {t : Nat} {M M' : Mem} {r : Int32} (h0 : hs G t (0, 11)) (hf : f_X11_restore t M = some (r, M')) : Ct G yX11_restore cX11_restore 1 (some .boolean) 3 62 [.ref t] M (some (.int r)) M' := by
  refine ct_i hW (by decide +kernel) (Nat.le_of_ble_eq_true rfl) (fun w h hr => ?_)
  have h : Rb G cX11_restore RX11 1 3 62 w := h
  refine (?_ : E (fun q => q = (r, M')) (f_X11_restore t M) (w M 0 [(0, .ref t)] [])) _ hf rfl
  unfold f_X11_restore
  refine E.m (h.aload_n 0 dX11_restore_0 rfl) ?_
  refine E.bnd (fun _ M2 => w M2 4 [(0, .ref t)] []) (fun _ M2 hf k => h.callV (As := []) (rest := []) (c_X11_ready hW h0 hf) lm_X11_ready lv_m_X11_ready ll_RX11_247 h0 lc_11 rfl rfl (Nat.le_of_ble_eq_true rfl) (by decide) dX11_restore_1 rfl k) (fun _ M2 => ?_)
  refine E.m (h.aload_n 0 dX11_restore_4 rfl) ?_
  refine E.m (h.get h0 lf_RX11_284 dX11_restore_5 fv_11_44) ?_
  refine E.br (fun k1 k2 => h.if_ne (tgt := 13) dX11_restore_8 (by decide) k2 k1) ?_ ?_
  · refine E.m (h.iconst (v := (0 : Int32)) dX11_restore_11 (by decide)) ?_
    exact E.some (ret_i hr rfl dX11_restore_12)
  · refine E.m (h.aload_n 0 dX11_restore_13 rfl) ?_
    refine E.m (h.aload_n 0 dX11_restore_14 rfl) ?_
    refine E.m (h.get h0 lf_RX11_456 dX11_restore_15 fv_11_45) ?_
    refine E.m (h.puti h0 lp_RX11_278 rfl dX11_restore_18) ?_
    refine E.nmM (fun M3 => ?_)
    refine E.m (h.aload_n 0 dX11_restore_21 rfl) ?_
    refine E.m (h.aload_n 0 dX11_restore_22 rfl) ?_
    refine E.m (h.get h0 lf_RX11_459 dX11_restore_23 fv_11_46) ?_
    refine E.m (h.puti h0 lp_RX11_281 rfl dX11_restore_26) ?_
    refine E.nmM (fun M4 => ?_)
    refine E.m (h.aload_n 0 dX11_restore_29 rfl) ?_
    refine E.m (h.get h0 lf_RX11_59 dX11_restore_30 fv_11_8) ?_
    refine E.m (h.aload_n 0 dX11_restore_33 rfl) ?_
    refine E.m (h.get h0 lf_RX11_106 dX11_restore_34 fv_11_47) ?_
    refine E.bnd (fun _ M6 => w M6 40 [(0, .ref t)] []) (fun _ M6 hf k => h.callS (As := [.ref (t + 8), .ref (t + 22)]) (rest := []) (c_X11_copyTo hW (hW.clo 47 h0 rfl) (hW.clo 61 h0 rfl) hf) lm_X11_copyTo ls_m_X11_copyTo ll_RX11_394 rfl rfl (Nat.le_of_ble_eq_true rfl) (by decide) dX11_restore_37 rfl k) (fun _ M6 => ?_)
    refine E.m (h.aload_n 0 dX11_restore_40 rfl) ?_
    refine E.m (h.get h0 lf_RX11_85 dX11_restore_41 fv_11_33) ?_
    refine E.m (h.aload_n 0 dX11_restore_44 rfl) ?_
    refine E.m (h.get h0 lf_RX11_109 dX11_restore_45 fv_11_48) ?_
    refine E.bnd (fun _ M8 => w M8 51 [(0, .ref t)] []) (fun _ M8 hf k => h.callS (As := [.ref (t + 15), .ref (t + 23)]) (rest := []) (c_X11_copyTo hW (hW.clo 54 h0 rfl) (hW.clo 62 h0 rfl) hf) lm_X11_copyTo ls_m_X11_copyTo ll_RX11_394 rfl rfl (Nat.le_of_ble_eq_true rfl) (by decide) dX11_restore_48 rfl k) (fun _ M8 => ?_)
    refine E.m (h.aload_n 0 dX11_restore_51 rfl) ?_
    refine E.m (h.get h0 lf_RX11_94 dX11_restore_52 fv_11_38) ?_
    refine E.m (h.aload_n 0 dX11_restore_55 rfl) ?_
    refine E.m (h.get h0 lf_RX11_112 dX11_restore_56 fv_11_49) ?_
    refine E.bnd (fun _ M10 => w M10 62 [(0, .ref t)] []) (fun _ M10 hf k => h.callS (As := [.ref (t + 18), .ref (t + 24)]) (rest := []) (c_X11_copyTo hW (hW.clo 57 h0 rfl) (hW.clo 63 h0 rfl) hf) lm_X11_copyTo ls_m_X11_copyTo ll_RX11_394 rfl rfl (Nat.le_of_ble_eq_true rfl) (by decide) dX11_restore_59 rfl k) (fun _ M10 => ?_)
    refine E.m (h.aload_n 0 dX11_restore_62 rfl) ?_
    refine E.m (h.get h0 lf_RX11_97 dX11_restore_63 fv_11_39) ?_
    refine E.m (h.aload_n 0 dX11_restore_66 rfl) ?_
    refine E.m (h.get h0 lf_RX11_115 dX11_restore_67 fv_11_50) ?_
    refine E.bnd (fun _ M12 => w M12 73 [(0, .ref t)] []) (fun _ M12 hf k => h.callS (As := [.ref (t + 19), .ref (t + 25)]) (rest := []) (c_X11_copyTo hW (hW.clo 58 h0 rfl) (hW.clo 64 h0 rfl) hf) lm_X11_copyTo ls_m_X11_copyTo ll_RX11_394 rfl rfl (Nat.le_of_ble_eq_true rfl) (by decide) dX11_restore_70 rfl k) (fun _ M12 => ?_)
    refine E.m (h.aload_n 0 dX11_restore_73 rfl) ?_
    refine E.m (h.get h0 lf_RX11_56 dX11_restore_74 fv_11_7) ?_
    refine E.m (h.aload_n 0 dX11_restore_77 rfl) ?_
    refine E.m (h.get h0 lf_RX11_118 dX11_restore_78 fv_11_51) ?_
    refine E.bnd (fun _ M14 => w M14 84 [(0, .ref t)] []) (fun _ M14 hf k => h.callS (As := [.ref (t + 7), .ref (t + 26)]) (rest := []) (c_X11_copyTo hW (hW.clo 46 h0 rfl) (hW.clo 65 h0 rfl) hf) lm_X11_copyTo ls_m_X11_copyTo ll_RX11_394 rfl rfl (Nat.le_of_ble_eq_true rfl) (by decide) dX11_restore_81 rfl k) (fun _ M14 => ?_)
    refine E.m (h.iconst (v := (1 : Int32)) dX11_restore_84 (by decide)) ?_
    exact E.some (ret_i hr rfl dX11_restore_85)
