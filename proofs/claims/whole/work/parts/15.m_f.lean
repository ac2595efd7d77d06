theorem fv_11_9 {M : Mem} {a : Nat} : fvl M a 11 9 = .int (M.1 a 9) := rfl
theorem fv_11_20 {M : Mem} {a : Nat} : fvl M a 11 20 = .int (M.1 a 20) := rfl
theorem fv_11_7 {M : Mem} {a : Nat} : fvl M a 11 7 = .ref (a + 7) := rfl
theorem fv_11_21 {M : Mem} {a : Nat} : fvl M a 11 21 = .int (M.1 a 21) := rfl
theorem fv_11_23 {M : Mem} {a : Nat} : fvl M a 11 23 = .ref (a + 11) := rfl
theorem fv_11_22 {M : Mem} {a : Nat} : fvl M a 11 22 = .ref (a + 10) := rfl
theorem fv_11_27 {M : Mem} {a : Nat} : fvl M a 11 27 = .ref (a + 13) := rfl
theorem fv_11_26 {M : Mem} {a : Nat} : fvl M a 11 26 = .ref (a + 12) := rfl
theorem fv_11_29 {M : Mem} {a : Nat} : fvl M a 11 29 = .int (M.1 a 29) := rfl
theorem fv_11_30 {M : Mem} {a : Nat} : fvl M a 11 30 = .int (M.1 a 30) := rfl
theorem fv_11_25 {M : Mem} {a : Nat} : fvl M a 11 25 = .int (M.1 a 25) := rfl
theorem fv_11_24 {M : Mem} {a : Nat} : fvl M a 11 24 = .int (M.1 a 24) := rfl
theorem fv_11_31 {M : Mem} {a : Nat} : fvl M a 11 31 = .int (M.1 a 31) := rfl
theorem fv_11_32 {M : Mem} {a : Nat} : fvl M a 11 32 = .int (M.1 a 32) := rfl
theorem lf_RX11_287 : FL RX11 287 11 9 := ⟨_, _, _, rfl, rfl, by decide, gin 1436 (by decide +kernel) rfl⟩
theorem lp_RX11_287 : FP RX11 287 11 9 .boolean := ⟨_, _, _, rfl, rfl, by decide, gin 1436 (by decide +kernel) rfl, rfl, by decide +kernel⟩
theorem lm_X11_takeOver : lkM yX11_takeOver cX11_takeOver 2 none 0 := ⟨gin 1608 (by decide +kernel) rfl, gin 102 (by decide +kernel) rfl, by decide +kernel⟩
theorem lv_m_X11_takeOver : Cond.instanceMethod yX11_takeOver ∈ gw ∧ Cond.selects (yX11_takeOver).cls yX11_takeOver yX11_takeOver ∈ gw := ⟨gin 1607 (by decide +kernel) rfl, gin 33 (by decide +kernel) rfl⟩
theorem ll_RX11_259 : Cond.methodLink RX11 259 yX11_takeOver ∈ gw := gin 1605 (by decide +kernel) rfl
theorem lm_X11_beginTold : lkM yX11_beginTold cX11_beginTold 1 none 0 := ⟨gin 1604 (by decide +kernel) rfl, gin 102 (by decide +kernel) rfl, by decide +kernel⟩
theorem lv_m_X11_beginTold : Cond.instanceMethod yX11_beginTold ∈ gw ∧ Cond.selects (yX11_beginTold).cls yX11_beginTold yX11_beginTold ∈ gw := ⟨gin 1603 (by decide +kernel) rfl, gin 32 (by decide +kernel) rfl⟩
theorem ll_RX11_253 : Cond.methodLink RX11 253 yX11_beginTold ∈ gw := gin 1601 (by decide +kernel) rfl
theorem lm_X11_fail : lkM yX11_fail cX11_fail 2 (some .int) 1 := ⟨gin 1623 (by decide +kernel) rfl, gin 102 (by decide +kernel) rfl, by decide +kernel⟩
theorem lv_m_X11_fail : Cond.instanceMethod yX11_fail ∈ gw ∧ Cond.selects (yX11_fail).cls yX11_fail yX11_fail ∈ gw := ⟨gin 1622 (by decide +kernel) rfl, gin 36 (by decide +kernel) rfl⟩
theorem ll_RX11_250 : Cond.methodLink RX11 250 yX11_fail ∈ gw := gin 1620 (by decide +kernel) rfl
theorem lp_RX11_136 : FP RX11 136 11 14 .int := ⟨_, _, _, rfl, rfl, by decide, gin 1441 (by decide +kernel) rfl, rfl, by decide +kernel⟩
theorem lp_RX11_65 : FP RX11 65 11 21 .int := ⟨_, _, _, rfl, rfl, by decide, gin 1448 (by decide +kernel) rfl, rfl, by decide +kernel⟩
theorem lf_RX11_171 : FL RX11 171 11 20 := ⟨_, _, _, rfl, rfl, by decide, gin 1447 (by decide +kernel) rfl⟩
theorem lf_RX11_56 : FL RX11 56 11 7 := ⟨_, _, _, rfl, rfl, by decide, gin 1434 (by decide +kernel) rfl⟩
theorem lm_X11_readLine : lkM yX11_readLine cX11_readLine 3 (some .int) 1 := ⟨gin 1646 (by decide +kernel) rfl, gin 102 (by decide +kernel) rfl, by decide +kernel⟩
theorem lv_m_X11_readLine : Cond.instanceMethod yX11_readLine ∈ gw ∧ Cond.selects (yX11_readLine).cls yX11_readLine yX11_readLine ∈ gw := ⟨gin 1645 (by decide +kernel) rfl, gin 39 (by decide +kernel) rfl⟩
theorem ll_RX11_256 : Cond.methodLink RX11 256 yX11_readLine ∈ gw := gin 1643 (by decide +kernel) rfl
theorem lm_X11_ready : lkM yX11_ready cX11_ready 1 none 0 := ⟨gin 1600 (by decide +kernel) rfl, gin 102 (by decide +kernel) rfl, by decide +kernel⟩
theorem lv_m_X11_ready : Cond.instanceMethod yX11_ready ∈ gw ∧ Cond.selects (yX11_ready).cls yX11_ready yX11_ready ∈ gw := ⟨gin 1599 (by decide +kernel) rfl, gin 31 (by decide +kernel) rfl⟩
theorem ll_RX11_247 : Cond.methodLink RX11 247 yX11_ready ∈ gw := gin 1597 (by decide +kernel) rfl
theorem lf_RX11_65 : FL RX11 65 11 21 := ⟨_, _, _, rfl, rfl, by decide, gin 1448 (by decide +kernel) rfl⟩
theorem lf_RX11_72 : FL RX11 72 11 23 := ⟨_, _, _, rfl, rfl, by decide, gin 1450 (by decide +kernel) rfl⟩
theorem lm_X11_reckon : lkM yX11_reckon cX11_reckon 3 (some .int) 3 := ⟨gin 1827 (by decide +kernel) rfl, gin 102 (by decide +kernel) rfl, by decide +kernel⟩
theorem ls_m_X11_reckon : Cond.static yX11_reckon ∈ gw := gin 1826 (by decide +kernel) rfl
theorem ll_RX11_294 : Cond.methodLink RX11 294 yX11_reckon ∈ gw := gin 1825 (by decide +kernel) rfl
theorem lf_RX11_69 : FL RX11 69 11 22 := ⟨_, _, _, rfl, rfl, by decide, gin 1449 (by decide +kernel) rfl⟩
theorem lf_RX11_78 : FL RX11 78 11 27 := ⟨_, _, _, rfl, rfl, by decide, gin 1454 (by decide +kernel) rfl⟩
theorem lm_X11_valueNow : lkM yX11_valueNow cX11_valueNow 6 (some .int) 2 := ⟨gin 1824 (by decide +kernel) rfl, gin 102 (by decide +kernel) rfl, by decide +kernel⟩
theorem lv_m_X11_valueNow : Cond.instanceMethod yX11_valueNow ∈ gw ∧ Cond.selects (yX11_valueNow).cls yX11_valueNow yX11_valueNow ∈ gw := ⟨gin 1823 (by decide +kernel) rfl, gin 69 (by decide +kernel) rfl⟩
theorem ll_RX11_290 : Cond.methodLink RX11 290 yX11_valueNow ∈ gw := gin 1821 (by decide +kernel) rfl
theorem lf_RX11_75 : FL RX11 75 11 26 := ⟨_, _, _, rfl, rfl, by decide, gin 1453 (by decide +kernel) rfl⟩
theorem lf_RX11_298 : FL RX11 298 11 29 := ⟨_, _, _, rfl, rfl, by decide, gin 1456 (by decide +kernel) rfl⟩
theorem lm_X11_ruleNow : lkM yX11_ruleNow cX11_ruleNow 5 (some .int) 1 := ⟨gin 1820 (by decide +kernel) rfl, gin 102 (by decide +kernel) rfl, by decide +kernel⟩
theorem lv_m_X11_ruleNow : Cond.instanceMethod yX11_ruleNow ∈ gw ∧ Cond.selects (yX11_ruleNow).cls yX11_ruleNow yX11_ruleNow ∈ gw := ⟨gin 1819 (by decide +kernel) rfl, gin 68 (by decide +kernel) rfl⟩
theorem ll_RX11_304 : Cond.methodLink RX11 304 yX11_ruleNow ∈ gw := gin 1817 (by decide +kernel) rfl
theorem lp_RX11_298 : FP RX11 298 11 29 .int := ⟨_, _, _, rfl, rfl, by decide, gin 1456 (by decide +kernel) rfl, rfl, by decide +kernel⟩
theorem lf_RX11_301 : FL RX11 301 11 30 := ⟨_, _, _, rfl, rfl, by decide, gin 1457 (by decide +kernel) rfl⟩
theorem lm_X11_isLost : lkM yX11_isLost cX11_isLost 1 (some .boolean) 0 := ⟨gin 1834 (by decide +kernel) rfl, gin 102 (by decide +kernel) rfl, by decide +kernel⟩
theorem lv_m_X11_isLost : Cond.instanceMethod yX11_isLost ∈ gw ∧ Cond.selects (yX11_isLost).cls yX11_isLost yX11_isLost ∈ gw := ⟨gin 1833 (by decide +kernel) rfl, gin 70 (by decide +kernel) rfl⟩
theorem ll_RX11_311 : Cond.methodLink RX11 311 yX11_isLost ∈ gw := gin 1831 (by decide +kernel) rfl
theorem lm_X11_within : lkM yX11_within cX11_within 3 (some .int) 3 := ⟨gin 1830 (by decide +kernel) rfl, gin 102 (by decide +kernel) rfl, by decide +kernel⟩
theorem ls_m_X11_within : Cond.static yX11_within ∈ gw := gin 1829 (by decide +kernel) rfl
theorem ll_RX11_308 : Cond.methodLink RX11 308 yX11_within ∈ gw := gin 1828 (by decide +kernel) rfl
theorem lm_X11_send : lkM yX11_send cX11_send 3 none 0 := ⟨gin 1816 (by decide +kernel) rfl, gin 102 (by decide +kernel) rfl, by decide +kernel⟩
theorem lv_m_X11_send : Cond.instanceMethod yX11_send ∈ gw ∧ Cond.selects (yX11_send).cls yX11_send yX11_send ∈ gw := ⟨gin 1815 (by decide +kernel) rfl, gin 67 (by decide +kernel) rfl⟩
theorem ll_RX11_315 : Cond.methodLink RX11 315 yX11_send ∈ gw := gin 1813 (by decide +kernel) rfl
theorem lm_X11_spotNow : lkM yX11_spotNow cX11_spotNow 1 (some .int) 0 := ⟨gin 1730 (by decide +kernel) rfl, gin 102 (by decide +kernel) rfl, by decide +kernel⟩
theorem lv_m_X11_spotNow : Cond.instanceMethod yX11_spotNow ∈ gw ∧ Cond.selects (yX11_spotNow).cls yX11_spotNow yX11_spotNow ∈ gw := ⟨gin 1729 (by decide +kernel) rfl, gin 56 (by decide +kernel) rfl⟩
theorem ll_RX11_318 : Cond.methodLink RX11 318 yX11_spotNow ∈ gw := gin 1727 (by decide +kernel) rfl
theorem lm_X11_come : lkM yX11_come cX11_come 6 none 2 := ⟨gin 1842 (by decide +kernel) rfl, gin 102 (by decide +kernel) rfl, by decide +kernel⟩
theorem lv_m_X11_come : Cond.instanceMethod yX11_come ∈ gw ∧ Cond.selects (yX11_come).cls yX11_come yX11_come ∈ gw := ⟨gin 1841 (by decide +kernel) rfl, gin 72 (by decide +kernel) rfl⟩
theorem ll_RX11_321 : Cond.methodLink RX11 321 yX11_come ∈ gw := gin 1839 (by decide +kernel) rfl
theorem lf_RX11_269 : FL RX11 269 11 25 := ⟨_, _, _, rfl, rfl, by decide, gin 1452 (by decide +kernel) rfl⟩
theorem lf_RX11_266 : FL RX11 266 11 24 := ⟨_, _, _, rfl, rfl, by decide, gin 1451 (by decide +kernel) rfl⟩
theorem lm_X11_levelNow : lkM yX11_levelNow cX11_levelNow 4 (some .int) 0 := ⟨gin 1726 (by decide +kernel) rfl, gin 102 (by decide +kernel) rfl, by decide +kernel⟩
theorem lv_m_X11_levelNow : Cond.instanceMethod yX11_levelNow ∈ gw ∧ Cond.selects (yX11_levelNow).cls yX11_levelNow yX11_levelNow ∈ gw := ⟨gin 1725 (by decide +kernel) rfl, gin 55 (by decide +kernel) rfl⟩
theorem ll_RX11_325 : Cond.methodLink RX11 325 yX11_levelNow ∈ gw := gin 1723 (by decide +kernel) rfl
theorem lm_X11_playedBack : lkM yX11_playedBack cX11_playedBack 2 (some .int) 1 := ⟨gin 1862 (by decide +kernel) rfl, gin 102 (by decide +kernel) rfl, by decide +kernel⟩
theorem lv_m_X11_playedBack : Cond.instanceMethod yX11_playedBack ∈ gw ∧ Cond.selects (yX11_playedBack).cls yX11_playedBack yX11_playedBack ∈ gw := ⟨gin 1861 (by decide +kernel) rfl, gin 77 (by decide +kernel) rfl⟩
theorem ll_RX11_328 : Cond.methodLink RX11 328 yX11_playedBack ∈ gw := gin 1859 (by decide +kernel) rfl
theorem lm_X11_octetOf : lkM yX11_octetOf cX11_octetOf 2 (some .int) 1 := ⟨gin 1854 (by decide +kernel) rfl, gin 102 (by decide +kernel) rfl, by decide +kernel⟩
theorem lv_m_X11_octetOf : Cond.instanceMethod yX11_octetOf ∈ gw ∧ Cond.selects (yX11_octetOf).cls yX11_octetOf yX11_octetOf ∈ gw := ⟨gin 1853 (by decide +kernel) rfl, gin 75 (by decide +kernel) rfl⟩
theorem ll_RX11_331 : Cond.methodLink RX11 331 yX11_octetOf ∈ gw := gin 1851 (by decide +kernel) rfl
theorem lm_X11_filler : lkM yX11_filler cX11_filler 1 (some .int) 0 := ⟨gin 1858 (by decide +kernel) rfl, gin 102 (by decide +kernel) rfl, by decide +kernel⟩
theorem lv_m_X11_filler : Cond.instanceMethod yX11_filler ∈ gw ∧ Cond.selects (yX11_filler).cls yX11_filler yX11_filler ∈ gw := ⟨gin 1857 (by decide +kernel) rfl, gin 76 (by decide +kernel) rfl⟩
theorem ll_RX11_334 : Cond.methodLink RX11 334 yX11_filler ∈ gw := gin 1855 (by decide +kernel) rfl
theorem lm_X11_play : lkM yX11_play cX11_play 5 none 0 := ⟨gin 1850 (by decide +kernel) rfl, gin 102 (by decide +kernel) rfl, by decide +kernel⟩
theorem lv_m_X11_play : Cond.instanceMethod yX11_play ∈ gw ∧ Cond.selects (yX11_play).cls yX11_play yX11_play ∈ gw := ⟨gin 1849 (by decide +kernel) rfl, gin 74 (by decide +kernel) rfl⟩
theorem ll_RX11_346 : Cond.methodLink RX11 346 yX11_play ∈ gw := gin 1847 (by decide +kernel) rfl
theorem lm_X11_steer : lkM yX11_steer cX11_steer 3 none 0 := ⟨gin 1846 (by decide +kernel) rfl, gin 102 (by decide +kernel) rfl, by decide +kernel⟩
theorem lv_m_X11_steer : Cond.instanceMethod yX11_steer ∈ gw ∧ Cond.selects (yX11_steer).cls yX11_steer yX11_steer ∈ gw := ⟨gin 1845 (by decide +kernel) rfl, gin 73 (by decide +kernel) rfl⟩
theorem ll_RX11_343 : Cond.methodLink RX11 343 yX11_steer ∈ gw := gin 1843 (by decide +kernel) rfl
theorem lm_X11_receive : lkM yX11_receive cX11_receive 8 none 0 := ⟨gin 1838 (by decide +kernel) rfl, gin 102 (by decide +kernel) rfl, by decide +kernel⟩
theorem lv_m_X11_receive : Cond.instanceMethod yX11_receive ∈ gw ∧ Cond.selects (yX11_receive).cls yX11_receive yX11_receive ∈ gw := ⟨gin 1837 (by decide +kernel) rfl, gin 71 (by decide +kernel) rfl⟩
theorem ll_RX11_340 : Cond.methodLink RX11 340 yX11_receive ∈ gw := gin 1835 (by decide +kernel) rfl
theorem lm_X11_makeOctets : lkM yX11_makeOctets cX11_makeOctets 1 none 0 := ⟨gin 1812 (by decide +kernel) rfl, gin 102 (by decide +kernel) rfl, by decide +kernel⟩
theorem lv_m_X11_makeOctets : Cond.instanceMethod yX11_makeOctets ∈ gw ∧ Cond.selects (yX11_makeOctets).cls yX11_makeOctets yX11_makeOctets ∈ gw := ⟨gin 1811 (by decide +kernel) rfl, gin 66 (by decide +kernel) rfl⟩
theorem ll_RX11_337 : Cond.methodLink RX11 337 yX11_makeOctets ∈ gw := gin 1809 (by decide +kernel) rfl
theorem lm_X11_aStep : lkM yX11_aStep cX11_aStep 1 none 0 := ⟨gin 1808 (by decide +kernel) rfl, gin 102 (by decide +kernel) rfl, by decide +kernel⟩
theorem lv_m_X11_aStep : Cond.instanceMethod yX11_aStep ∈ gw ∧ Cond.selects (yX11_aStep).cls yX11_aStep yX11_aStep ∈ gw := ⟨gin 1807 (by decide +kernel) rfl, gin 65 (by decide +kernel) rfl⟩
theorem ll_RX11_349 : Cond.methodLink RX11 349 yX11_aStep ∈ gw := gin 1805 (by decide +kernel) rfl
theorem lm_X11_regained : lkM yX11_regained cX11_regained 1 (some .int) 0 := ⟨gin 1735 (by decide +kernel) rfl, gin 102 (by decide +kernel) rfl, by decide +kernel⟩
theorem lv_m_X11_regained : Cond.instanceMethod yX11_regained ∈ gw ∧ Cond.selects (yX11_regained).cls yX11_regained yX11_regained ∈ gw := ⟨gin 1734 (by decide +kernel) rfl, gin 57 (by decide +kernel) rfl⟩
theorem ll_RX11_352 : Cond.methodLink RX11 352 yX11_regained ∈ gw := gin 1732 (by decide +kernel) rfl
theorem lm_X11_samplesKept : lkM yX11_samplesKept cX11_samplesKept 1 (some .int) 0 := ⟨gin 1739 (by decide +kernel) rfl, gin 102 (by decide +kernel) rfl, by decide +kernel⟩
theorem lv_m_X11_samplesKept : Cond.instanceMethod yX11_samplesKept ∈ gw ∧ Cond.selects (yX11_samplesKept).cls yX11_samplesKept yX11_samplesKept ∈ gw := ⟨gin 1738 (by decide +kernel) rfl, gin 58 (by decide +kernel) rfl⟩
theorem ll_RX11_355 : Cond.methodLink RX11 355 yX11_samplesKept ∈ gw := gin 1736 (by decide +kernel) rfl
theorem lf_RX11_278 : FL RX11 278 11 31 := ⟨_, _, _, rfl, rfl, by decide, gin 1458 (by decide +kernel) rfl⟩
theorem lf_RX11_281 : FL RX11 281 11 32 := ⟨_, _, _, rfl, rfl, by decide, gin 1459 (by decide +kernel) rfl⟩
theorem lj_RX11_362 : Jvm.Cond.constantLong RX11 362 (2 : Int64) ∈ gw := gin 1751 (by decide +kernel) rfl
theorem lm_X11_isIn : lkM yX11_isIn cX11_isIn 6 (some .boolean) 3 := ⟨gin 1750 (by decide +kernel) rfl, gin 102 (by decide +kernel) rfl, by decide +kernel⟩
theorem ls_m_X11_isIn : Cond.static yX11_isIn ∈ gw := gin 1749 (by decide +kernel) rfl
theorem ll_RX11_358 : Cond.methodLink RX11 358 yX11_isIn ∈ gw := gin 1748 (by decide +kernel) rfl
theorem lj_RX11_364 : Jvm.Cond.constantLong RX11 364 (63 : Int64) ∈ gw := gin 1756 (by decide +kernel) rfl
theorem lm_X11_playedKept : lkM yX11_playedKept cX11_playedKept 1 (some .int) 0 := ⟨gin 1764 (by decide +kernel) rfl, gin 102 (by decide +kernel) rfl, by decide +kernel⟩
theorem lv_m_X11_playedKept : Cond.instanceMethod yX11_playedKept ∈ gw ∧ Cond.selects (yX11_playedKept).cls yX11_playedKept yX11_playedKept ∈ gw := ⟨gin 1763 (by decide +kernel) rfl, gin 59 (by decide +kernel) rfl⟩
theorem ll_RX11_366 : Cond.methodLink RX11 366 yX11_playedKept ∈ gw := gin 1761 (by decide +kernel) rfl
theorem lj_RX11_369 : Jvm.Cond.constantLong RX11 369 (128 : Int64) ∈ gw := gin 1769 (by decide +kernel) rfl
theorem lm_X11_sampleAt : lkM yX11_sampleAt cX11_sampleAt 2 (some .int) 1 := ⟨gin 1777 (by decide +kernel) rfl, gin 102 (by decide +kernel) rfl, by decide +kernel⟩
theorem lv_m_X11_sampleAt : Cond.instanceMethod yX11_sampleAt ∈ gw ∧ Cond.selects (yX11_sampleAt).cls yX11_sampleAt yX11_sampleAt ∈ gw := ⟨gin 1776 (by decide +kernel) rfl, gin 60 (by decide +kernel) rfl⟩
theorem ll_RX11_371 : Cond.methodLink RX11 371 yX11_sampleAt ∈ gw := gin 1774 (by decide +kernel) rfl
theorem li_RX11_374 : Jvm.Cond.constant RX11 374 (100000000 : Int32) ∈ gw := gin 1786 (by decide +kernel) rfl
theorem li_RX11_375 : Jvm.Cond.constant RX11 375 (-100000000 : Int32) ∈ gw := gin 1787 (by decide +kernel) rfl
def f_X11_ready (t : Nat) (M : Mem) : Option (Unit × Mem) :=
  nm (wi M t 2 (0 : Int32)) (fun M1 => if (M1.1 t 9) = 0 then (nm (wi M1 t 9 (1 : Int32)) (fun M2 => bd (f_X11_beginTold t M2) (fun _ M4 => bd (f_X11_takeOver t M4) (fun _ M6 => some ((), M6))))) else (some ((), M1)))
set_option maxRecDepth 20000 in
theorem c_X11_ready {G : Ctx} (hW : WFG G) {t : Nat} {M M' : Mem} (h0 : hs G t (0, 11)) (hf : f_X11_ready t M = some ((), M')) : Ct G yX11_ready cX11_ready 1 none 2 42 [.ref t] M none M' := by
  refine ct_v hW (by decide +kernel) (Nat.le_of_ble_eq_true rfl) (fun w h hr => ?_)
  have h : Rb G cX11_ready RX11 1 2 42 w := h
  refine (?_ : E (fun q => q = ((), M')) (f_X11_ready t M) (w M 0 [(0, .ref t)] [])) _ hf rfl
  unfold f_X11_ready
  refine E.m (h.aload_n 0 dX11_ready_0 rfl) ?_
  refine E.m (h.iconst (v := (0 : Int32)) dX11_ready_1 (by decide)) ?_
  refine E.m (h.puti h0 lp_RX11_121 rfl dX11_ready_2) ?_
  refine E.nmM (fun M1 => ?_)
  refine E.m (h.aload_n 0 dX11_ready_5 rfl) ?_
  refine E.m (h.get h0 lf_RX11_287 dX11_ready_6 fv_11_9) ?_
  refine E.br (fun k1 k2 => h.if_eq (tgt := 13) dX11_ready_9 (by decide) k1 k2) ?_ ?_
  · refine E.m (h.aload_n 0 dX11_ready_13 rfl) ?_
    refine E.m (h.iconst (v := (1 : Int32)) dX11_ready_14 (by decide)) ?_
    refine E.m (h.putz h0 lp_RX11_287 rfl dX11_ready_15 (by decide)) ?_
    refine E.nmM (fun M2 => ?_)
    refine E.m (h.aload_n 0 dX11_ready_18 rfl) ?_
    refine E.bnd (fun _ M4 => w M4 22 [(0, .ref t)] []) (fun _ M4 hf k => h.callV (As := []) (rest := []) (c_X11_beginTold hW h0 hf) lm_X11_beginTold lv_m_X11_beginTold ll_RX11_253 h0 lc_11 rfl rfl (Nat.le_of_ble_eq_true rfl) (by decide) dX11_ready_19 rfl k) (fun _ M4 => ?_)
    refine E.m (h.aload_n 0 dX11_ready_22 rfl) ?_
    refine E.bnd (fun _ M6 => w M6 26 [(0, .ref t)] []) (fun _ M6 hf k => h.callV (As := []) (rest := []) (c_X11_takeOver hW h0 hf) lm_X11_takeOver lv_m_X11_takeOver ll_RX11_259 h0 lc_11 rfl rfl (Nat.le_of_ble_eq_true rfl) (by decide) dX11_ready_23 rfl k) (fun _ M6 => ?_)
    exact E.some (ret_v hr dX11_ready_26)
  · exact E.some (ret_v hr dX11_ready_12)
def l_X11_line_57 (t : Nat) (k14 : Int32) (M15 : Mem) : Option ((Int32 × Mem) ⊕ (Int32 × Mem)) :=
  jn0 (fun _ => if (M15.1 t 19) = 0 then (bd (f_X11_takeOver t M15) (fun _ M17 => some (.inr ((0 : Int32), M17)))) else (nm (wi M15 t 21 (M15.1 t 20)) (fun M18 => nm (wi M18 (t + 7) 0 ((M18.1 (t + 7) 0) + (1 : Int32))) (fun M19 => some (.inr (M19.1 t 19, M19)))))) (fun J80 => if (M15.1 t 19) = 0 then (if (M15.1 t 15) = 0 then (J80 ()) else (bd (f_X11_readLine t k14 M15) (fun u20 M21 => some (.inl (u20, M21))))) else (J80 ()))
def f_X11_line (t : Nat) (x1_ : Int32) (M : Mem) : Option (Int32 × Mem) :=
  bd (f_X11_ready t M) (fun _ M2 => jn0 (fun _ => bd (f_X11_fail t (1 : Int32) M2) (fun u3 M4 => some (u3, M4))) (fun J16 => if x1_ < 0 then (J16 ()) else (if x1_ ≤ (M2.1 t 12) then (nm (wi M2 t 12 (0 : Int32)) (fun M5 => nm (wi M5 t 14 x1_) (fun M6 => nm (wi M6 t 13 (0 : Int32)) (fun M7 => nm (wi M7 t 19 (0 : Int32)) (fun M8 => nm (wi M8 t 21 (-1 : Int32)) (fun M9 => bd (f_X11_beginTold t M9) (fun _ M11 => bd (f_X11_stepOn t M11) (fun _ M13 => lop2 FU (l_X11_line_57 t) (0 : Int32) M13)))))))) else (J16 ()))))
set_option maxRecDepth 20000 in
theorem c_X11_line {G : Ctx} (hW : WFG G) {t : Nat} {x1_ : Int32} {M M' : Mem} {r : Int32} (h0 : hs G t (0, 11)) (hf : f_X11_line t x1_ M = some (r, M')) : Ct G yX11_line cX11_line 3 (some .int) 97 5312 [.ref t, .int x1_] M (some (.int r)) M' := by
  refine ct_i hW (by decide +kernel) (Nat.le_of_ble_eq_true rfl) (fun w h hr => ?_)
  have h : Rb G cX11_line RX11 3 97 5312 w := h
  refine (?_ : E (fun q => q = (r, M')) (f_X11_line t x1_ M) (w M 0 [(0, .ref t), (1, .int x1_)] [])) _ hf rfl
  unfold f_X11_line
  refine E.m (h.aload_n 0 dX11_line_0 rfl) ?_
  refine E.bnd (fun _ M2 => w M2 4 [(0, .ref t), (1, .int x1_)] []) (fun _ M2 hf k => h.callV (As := []) (rest := []) (c_X11_ready hW h0 hf) lm_X11_ready lv_m_X11_ready ll_RX11_247 h0 lc_11 rfl rfl (Nat.le_of_ble_eq_true rfl) (by decide) dX11_line_1 rfl k) (fun _ M2 => ?_)
  refine E.m (h.iload_n 1 dX11_line_4 rfl) ?_
  refine E.join0 (fun _ => w M2 16 [(0, .ref t), (1, .int x1_)] []) (fun _ => ?_) (fun J16 hJ16 => ?_)
  · refine E.m (h.aload_n 0 dX11_line_16 rfl) ?_
    refine E.m (h.iconst (v := (1 : Int32)) dX11_line_17 (by decide)) ?_
    refine E.bnd (fun u3 M4 => w M4 21 [(0, .ref t), (1, .int x1_)] [.int u3]) (fun u3 M4 hf k => h.callV (As := [.int (1 : Int32)]) (rest := []) (c_X11_fail hW h0 hf) lm_X11_fail lv_m_X11_fail ll_RX11_250 h0 lc_11 rfl rfl (Nat.le_of_ble_eq_true rfl) (by decide) dX11_line_18 rfl k) (fun u3 M4 => ?_)
    exact E.some (ret_i hr rfl dX11_line_21)
  refine E.br (fun k1 k2 => h.if_lt (tgt := 16) dX11_line_5 (by decide) k1 k2) ?_ ?_
  · exact hJ16 ()
  · refine E.m (h.iload_n 1 dX11_line_8 rfl) ?_
    refine E.m (h.aload_n 0 dX11_line_9 rfl) ?_
    refine E.m (h.get h0 lf_RX11_133 dX11_line_10 fv_11_12) ?_
    refine E.br (fun k1 k2 => h.icmp_le (tgt := 22) dX11_line_13 (by decide) k1 k2) ?_ ?_
    · refine E.m (h.aload_n 0 dX11_line_22 rfl) ?_
      refine E.m (h.iconst (v := (0 : Int32)) dX11_line_23 (by decide)) ?_
      refine E.m (h.puti h0 lp_RX11_133 rfl dX11_line_24) ?_
      refine E.nmM (fun M5 => ?_)
      refine E.m (h.aload_n 0 dX11_line_27 rfl) ?_
      refine E.m (h.iload_n 1 dX11_line_28 rfl) ?_
      refine E.m (h.puti h0 lp_RX11_136 rfl dX11_line_29) ?_
      refine E.nmM (fun M6 => ?_)
      refine E.m (h.aload_n 0 dX11_line_32 rfl) ?_
      refine E.m (h.iconst (v := (0 : Int32)) dX11_line_33 (by decide)) ?_
      refine E.m (h.puti h0 lp_RX11_138 rfl dX11_line_34) ?_
      refine E.nmM (fun M7 => ?_)
      refine E.m (h.aload_n 0 dX11_line_37 rfl) ?_
      refine E.m (h.iconst (v := (0 : Int32)) dX11_line_38 (by decide)) ?_
      refine E.m (h.puti h0 lp_RX11_168 rfl dX11_line_39) ?_
      refine E.nmM (fun M8 => ?_)
      refine E.m (h.aload_n 0 dX11_line_42 rfl) ?_
      refine E.m (h.iconst (v := (-1 : Int32)) dX11_line_43 (by decide)) ?_
      refine E.m (h.puti h0 lp_RX11_65 rfl dX11_line_44) ?_
      refine E.nmM (fun M9 => ?_)
      refine E.m (h.aload_n 0 dX11_line_47 rfl) ?_
      refine E.bnd (fun _ M11 => w M11 51 [(0, .ref t), (1, .int x1_)] []) (fun _ M11 hf k => h.callV (As := []) (rest := []) (c_X11_beginTold hW h0 hf) lm_X11_beginTold lv_m_X11_beginTold ll_RX11_253 h0 lc_11 rfl rfl (Nat.le_of_ble_eq_true rfl) (by decide) dX11_line_48 rfl k) (fun _ M11 => ?_)
      refine E.m (h.aload_n 0 dX11_line_51 rfl) ?_
      refine E.bnd (fun _ M13 => w M13 55 [(0, .ref t), (1, .int x1_)] []) (fun _ M13 hf k => h.callV (As := []) (rest := []) (c_X11_stepOn hW h0 hf) lm_X11_stepOn lv_m_X11_stepOn ll_RX11_193 h0 lc_11 rfl rfl (Nat.le_of_ble_eq_true rfl) (by decide) dX11_line_52 rfl k) (fun _ M13 => ?_)
      refine E.m (h.iconst (v := (0 : Int32)) dX11_line_55 (by decide)) ?_
      refine E.m (h.istore_n dX11_line_56 (by decide) rfl) ?_
      refine E.m (h.sub [1, 2, 0] rfl) ?_
      refine E.loop2 (fun k14 M15 => w M15 57 [(0, .ref t), (1, .int x1_), (2, .int k14)] []) (fun k14 M15 => ?_) _ _ _
      unfold l_X11_line_57
      refine E.m (h.aload_n 0 dX11_line_57 rfl) ?_
      refine E.m (h.get h0 lf_RX11_168 dX11_line_58 fv_11_19) ?_
      refine E.join0 (fun _ => w M15 80 [(0, .ref t), (1, .int x1_), (2, .int k14)] []) (fun _ => ?_) (fun J80 hJ80 => ?_)
      · refine E.m (h.aload_n 0 dX11_line_80 rfl) ?_
        refine E.m (h.get h0 lf_RX11_168 dX11_line_81 fv_11_19) ?_
        refine E.br (fun k1 k2 => h.if_eq (tgt := 110) dX11_line_84 (by decide) k1 k2) ?_ ?_
        · refine E.m (h.aload_n 0 dX11_line_110 rfl) ?_
          refine E.bnd (fun _ M17 => w M17 114 [(0, .ref t), (1, .int x1_), (2, .int k14)] []) (fun _ M17 hf k => h.callV (As := []) (rest := []) (c_X11_takeOver hW h0 hf) lm_X11_takeOver lv_m_X11_takeOver ll_RX11_259 h0 lc_11 rfl rfl (Nat.le_of_ble_eq_true rfl) (by decide) dX11_line_111 rfl k) (fun _ M17 => ?_)
          refine E.m (h.iconst (v := (0 : Int32)) dX11_line_114 (by decide)) ?_
          exact E.some (ret_i hr rfl dX11_line_115)
        · refine E.m (h.aload_n 0 dX11_line_87 rfl) ?_
          refine E.m (h.aload_n 0 dX11_line_88 rfl) ?_
          refine E.m (h.get h0 lf_RX11_171 dX11_line_89 fv_11_20) ?_
          refine E.m (h.puti h0 lp_RX11_65 rfl dX11_line_92) ?_
          refine E.nmM (fun M18 => ?_)
          refine E.m (h.aload_n 0 dX11_line_95 rfl) ?_
          refine E.m (h.get h0 lf_RX11_56 dX11_line_96 fv_11_7) ?_
          refine E.m (h.iconst (v := (0 : Int32)) dX11_line_99 (by decide)) ?_
          refine E.m (h.dup2 dX11_line_100 rfl rfl) ?_
          refine E.m (h.ialdk (k := 0) (hW.clo 46 h0 rfl) (by decide) rfl dX11_line_101) ?_
          refine E.m (h.iconst (v := (1 : Int32)) dX11_line_102 (by decide)) ?_
          refine E.m (h.iadd dX11_line_103) ?_
          refine E.m (h.iastk (k := 0) (hW.clo 46 h0 rfl) (by decide) rfl dX11_line_104) ?_
          refine E.nmM (fun M19 => ?_)
          refine E.m (h.aload_n 0 dX11_line_105 rfl) ?_
          refine E.m (h.get h0 lf_RX11_168 dX11_line_106 fv_11_19) ?_
          exact E.some (ret_i hr rfl dX11_line_109)
      refine E.br (fun k1 k2 => h.if_ne (tgt := 80) dX11_line_61 (by decide) k2 k1) ?_ ?_
      · refine E.m (h.aload_n 0 dX11_line_64 rfl) ?_
        refine E.m (h.get h0 lf_RX11_148 dX11_line_65 fv_11_15) ?_
        refine E.br (fun k1 k2 => h.if_eq (tgt := 80) dX11_line_68 (by decide) k1 k2) ?_ ?_
        · exact hJ80 ()
        · refine E.m (h.aload_n 0 dX11_line_71 rfl) ?_
          refine E.m (h.iload_n 2 dX11_line_72 rfl) ?_
          refine E.bnd (fun u20 M21 => w M21 76 [(0, .ref t), (1, .int x1_), (2, .int k14)] [.int u20]) (fun u20 M21 hf k => h.callV (As := [.int k14]) (rest := []) (c_X11_readLine hW h0 hf) lm_X11_readLine lv_m_X11_readLine ll_RX11_256 h0 lc_11 rfl rfl (Nat.le_of_ble_eq_true rfl) (by decide) dX11_line_73 rfl k) (fun u20 M21 => ?_)
          refine E.m (h.istore_n dX11_line_76 (by decide) rfl) ?_
          refine E.m (h.goto (tgt := 57) dX11_line_77 (by decide)) ?_
          refine E.m (h.sub [1, 2, 0] rfl) ?_
          exact E.some (fun q => q)
      · exact hJ80 ()
    · exact hJ16 ()
def f_X11_fault (t : Nat) (M : Mem) : Option (Int32 × Mem) :=
  bd (f_X11_ready t M) (fun _ M2 => some (M2.1 t 21, M2))
set_option maxRecDepth 20000 in
theorem c_X11_fault {G : Ctx} (hW : WFG G) {t : Nat} {M M' : Mem} {r : Int32} (h0 : hs G t (0, 11)) (hf : f_X11_fault t M = some (r, M')) : Ct G yX11_fault cX11_fault 1 (some .int) 3 62 [.ref t] M (some (.int r)) M' := by
  refine ct_i hW (by decide +kernel) (Nat.le_of_ble_eq_true rfl) (fun w h hr => ?_)
  have h : Rb G cX11_fault RX11 1 3 62 w := h
  refine (?_ : E (fun q => q = (r, M')) (f_X11_fault t M) (w M 0 [(0, .ref t)] [])) _ hf rfl
  unfold f_X11_fault
  refine E.m (h.aload_n 0 dX11_fault_0 rfl) ?_
  refine E.bnd (fun _ M2 => w M2 4 [(0, .ref t)] []) (fun _ M2 hf k => h.callV (As := []) (rest := []) (c_X11_ready hW h0 hf) lm_X11_ready lv_m_X11_ready ll_RX11_247 h0 lc_11 rfl rfl (Nat.le_of_ble_eq_true rfl) (by decide) dX11_fault_1 rfl k) (fun _ M2 => ?_)
  refine E.m (h.aload_n 0 dX11_fault_4 rfl) ?_
  refine E.m (h.get h0 lf_RX11_65 dX11_fault_5 fv_11_21) ?_
  exact E.some (ret_i hr rfl dX11_fault_8)
def f_X11_reckon (x1_ : Int32) (x2_ : Int32) (x3_ : Int32) (M : Mem) : Option (Int32 × Mem) :=
  if x1_.toInt < -26 ∨ -20 < x1_.toInt then (jn1 (fun z1 => some (z1, M)) (fun J117 => jn0 (fun _ => J117 (1 : Int32)) (fun J112 => if x2_ = 0 then (if x3_ = 0 then (J117 (0 : Int32)) else (J112 ())) else (J112 ())))) else if x1_ = (-26 : Int32) then (jn1 (fun z2 => some (z2, M)) (fun J103 => jn0 (fun _ => J103 (0 : Int32)) (fun J102 => if x2_ = 0 then (J102 ()) else (if x3_ = 0 then (J102 ()) else (J103 (1 : Int32)))))) else if x1_ = (-25 : Int32) then (jn1 (fun z3 => some (z3, M)) (fun J89 => if x2_ = x3_ then (J89 (1 : Int32)) else (J89 (0 : Int32)))) else if x1_ = (-24 : Int32) then (jn1 (fun z4 => some (z4, M)) (fun J78 => if x3_ ≤ x2_ then (J78 (0 : Int32)) else (J78 (1 : Int32)))) else if x1_ = (-23 : Int32) then (jn1 (fun z5 => some (z5, M)) (fun J67 => if x3_ = 0 then (J67 (0 : Int32)) else (gdp (¬ x3_ = 0) (J67 (x2_ / x3_))))) else if x1_ = (-22 : Int32) then (some (x2_ * x3_, M)) else if x1_ = (-21 : Int32) then (some (x2_ - x3_, M)) else if x1_ = (-20 : Int32) then (some (x2_ + x3_, M)) else none
set_option maxRecDepth 20000 in
theorem c_X11_reckon {G : Ctx} (hW : WFG G) {x1_ : Int32} {x2_ : Int32} {x3_ : Int32} {M M' : Mem} {r : Int32} (hf : f_X11_reckon x1_ x2_ x3_ M = some (r, M')) : Ct G yX11_reckon cX11_reckon 3 (some .int) 0 0 [.int x1_, .int x2_, .int x3_] M (some (.int r)) M' := by
  refine ct_i hW (by decide +kernel) (Nat.le_of_ble_eq_true rfl) (fun w h hr => ?_)
  have h : Rb G cX11_reckon RX11 3 0 0 w := h
  refine (?_ : E (fun q => q = (r, M')) (f_X11_reckon x1_ x2_ x3_ M) (w M 0 [(0, .int x1_), (1, .int x2_), (2, .int x3_)] [])) _ hf rfl
  unfold f_X11_reckon
  refine E.m (h.iload_n 0 dX11_reckon_0 rfl) ?_
  refine E.sw (fun hc k => h.tabOut (tgt := 104) dX11_reckon_1 hc (by decide) k) ?_ (fun hn => ?_)
  · refine E.m (h.iload_n 1 dX11_reckon_104 rfl) ?_
    refine E.join1 (fun z1 => w M 117 [(0, .int x1_), (1, .int x2_), (2, .int x3_)] [.int z1]) (fun z1 => ?_) (fun J117 hJ117 => ?_)
    · exact E.some (ret_i hr rfl dX11_reckon_117)
    refine E.join0 (fun _ => w M 112 [(0, .int x1_), (1, .int x2_), (2, .int x3_)] []) (fun _ => ?_) (fun J112 hJ112 => ?_)
    · refine E.m (h.iconst (v := (1 : Int32)) dX11_reckon_112 (by decide)) ?_
      refine E.m (h.goto (tgt := 117) dX11_reckon_113 (by decide)) ?_
      exact hJ117 _
    refine E.br (fun k1 k2 => h.if_ne (tgt := 112) dX11_reckon_105 (by decide) k2 k1) ?_ ?_
    · refine E.m (h.iload_n 2 dX11_reckon_108 rfl) ?_
      refine E.br (fun k1 k2 => h.if_eq (tgt := 116) dX11_reckon_109 (by decide) k1 k2) ?_ ?_
      · refine E.m (h.iconst (v := (0 : Int32)) dX11_reckon_116 (by decide)) ?_
        exact hJ117 _
      · exact hJ112 ()
    · exact hJ112 ()
  refine E.sw (fun hc k => h.tabIn (tgt := 90) dX11_reckon_1 (by rw [hc]; decide) (by rw [hc]; decide) (by rw [hc]; rfl) (by decide) k) ?_ (fun _ => ?_)
  · refine E.m (h.iload_n 1 dX11_reckon_90 rfl) ?_
    refine E.join1 (fun z2 => w M 103 [(0, .int x1_), (1, .int x2_), (2, .int x3_)] [.int z2]) (fun z2 => ?_) (fun J103 hJ103 => ?_)
    · exact E.some (ret_i hr rfl dX11_reckon_103)
    refine E.join0 (fun _ => w M 102 [(0, .int x1_), (1, .int x2_), (2, .int x3_)] []) (fun _ => ?_) (fun J102 hJ102 => ?_)
    · refine E.m (h.iconst (v := (0 : Int32)) dX11_reckon_102 (by decide)) ?_
      exact hJ103 _
    refine E.br (fun k1 k2 => h.if_eq (tgt := 102) dX11_reckon_91 (by decide) k1 k2) ?_ ?_
    · exact hJ102 ()
    · refine E.m (h.iload_n 2 dX11_reckon_94 rfl) ?_
      refine E.br (fun k1 k2 => h.if_eq (tgt := 102) dX11_reckon_95 (by decide) k1 k2) ?_ ?_
      · exact hJ102 ()
      · refine E.m (h.iconst (v := (1 : Int32)) dX11_reckon_98 (by decide)) ?_
        refine E.m (h.goto (tgt := 103) dX11_reckon_99 (by decide)) ?_
        exact hJ103 _
  refine E.sw (fun hc k => h.tabIn (tgt := 79) dX11_reckon_1 (by rw [hc]; decide) (by rw [hc]; decide) (by rw [hc]; rfl) (by decide) k) ?_ (fun _ => ?_)
  · refine E.m (h.iload_n 1 dX11_reckon_79 rfl) ?_
    refine E.m (h.iload_n 2 dX11_reckon_80 rfl) ?_
    refine E.join1 (fun z3 => w M 89 [(0, .int x1_), (1, .int x2_), (2, .int x3_)] [.int z3]) (fun z3 => ?_) (fun J89 hJ89 => ?_)
    · exact E.some (ret_i hr rfl dX11_reckon_89)
    refine E.br (fun k1 k2 => h.icmp_ne (tgt := 88) dX11_reckon_81 (by decide) k2 k1) ?_ ?_
    · refine E.m (h.iconst (v := (1 : Int32)) dX11_reckon_84 (by decide)) ?_
      refine E.m (h.goto (tgt := 89) dX11_reckon_85 (by decide)) ?_
      exact hJ89 _
    · refine E.m (h.iconst (v := (0 : Int32)) dX11_reckon_88 (by decide)) ?_
      exact hJ89 _
  refine E.sw (fun hc k => h.tabIn (tgt := 68) dX11_reckon_1 (by rw [hc]; decide) (by rw [hc]; decide) (by rw [hc]; rfl) (by decide) k) ?_ (fun _ => ?_)
  · refine E.m (h.iload_n 1 dX11_reckon_68 rfl) ?_
    refine E.m (h.iload_n 2 dX11_reckon_69 rfl) ?_
    refine E.join1 (fun z4 => w M 78 [(0, .int x1_), (1, .int x2_), (2, .int x3_)] [.int z4]) (fun z4 => ?_) (fun J78 hJ78 => ?_)
    · exact E.some (ret_i hr rfl dX11_reckon_78)
    refine E.br (fun k1 k2 => h.icmp_ge (tgt := 77) dX11_reckon_70 (by decide) k1 k2) ?_ ?_
    · refine E.m (h.iconst (v := (0 : Int32)) dX11_reckon_77 (by decide)) ?_
      exact hJ78 _
    · refine E.m (h.iconst (v := (1 : Int32)) dX11_reckon_73 (by decide)) ?_
      refine E.m (h.goto (tgt := 78) dX11_reckon_74 (by decide)) ?_
      exact hJ78 _
  refine E.sw (fun hc k => h.tabIn (tgt := 56) dX11_reckon_1 (by rw [hc]; decide) (by rw [hc]; decide) (by rw [hc]; rfl) (by decide) k) ?_ (fun _ => ?_)
  · refine E.m (h.iload_n 2 dX11_reckon_56 rfl) ?_
    refine E.join1 (fun z5 => w M 67 [(0, .int x1_), (1, .int x2_), (2, .int x3_)] [.int z5]) (fun z5 => ?_) (fun J67 hJ67 => ?_)
    · exact E.some (ret_i hr rfl dX11_reckon_67)
    refine E.br (fun k1 k2 => h.if_ne (tgt := 64) dX11_reckon_57 (by decide) k2 k1) ?_ ?_
    · refine E.m (h.iconst (v := (0 : Int32)) dX11_reckon_60 (by decide)) ?_
      refine E.m (h.goto (tgt := 67) dX11_reckon_61 (by decide)) ?_
      exact hJ67 _
    · refine E.m (h.iload_n 1 dX11_reckon_64 rfl) ?_
      refine E.m (h.iload_n 2 dX11_reckon_65 rfl) ?_
      refine E.gd (fun hc k => h.idiv hc dX11_reckon_66 k) (fun _ => ?_)
      exact hJ67 _
  refine E.sw (fun hc k => h.tabIn (tgt := 52) dX11_reckon_1 (by rw [hc]; decide) (by rw [hc]; decide) (by rw [hc]; rfl) (by decide) k) ?_ (fun _ => ?_)
  · refine E.m (h.iload_n 1 dX11_reckon_52 rfl) ?_
    refine E.m (h.iload_n 2 dX11_reckon_53 rfl) ?_
    refine E.m (h.imul dX11_reckon_54) ?_
    exact E.some (ret_i hr rfl dX11_reckon_55)
  refine E.sw (fun hc k => h.tabIn (tgt := 48) dX11_reckon_1 (by rw [hc]; decide) (by rw [hc]; decide) (by rw [hc]; rfl) (by decide) k) ?_ (fun _ => ?_)
  · refine E.m (h.iload_n 1 dX11_reckon_48 rfl) ?_
    refine E.m (h.iload_n 2 dX11_reckon_49 rfl) ?_
    refine E.m (h.isub dX11_reckon_50) ?_
    exact E.some (ret_i hr rfl dX11_reckon_51)
  refine E.sw (fun hc k => h.tabIn (tgt := 44) dX11_reckon_1 (by rw [hc]; decide) (by rw [hc]; decide) (by rw [hc]; rfl) (by decide) k) ?_ (fun _ => ?_)
  · refine E.m (h.iload_n 1 dX11_reckon_44 rfl) ?_
    refine E.m (h.iload_n 2 dX11_reckon_45 rfl) ?_
    refine E.m (h.iadd dX11_reckon_46) ?_
    exact E.some (ret_i hr rfl dX11_reckon_47)
  exact E.none
def l_X11_valueNow_5 (t : Nat) (r1_ : Nat) (n1_ : Nat) (x2_ : Int32) (k1 : Int32) (k2 : Int32) (M3 : Mem) : Option ((Int32 × Int32 × Mem) ⊕ (Int32 × Mem)) :=
  if x2_ ≤ k2 then (some (.inr (M3.1 (t + 11) 0, M3))) else (gdi k2 n1_ (nm (M3.1 r1_ k2.toNatClampNeg) (fun y4 => jn2 (fun z5 M6 => nm (k2 + (1 : Int32)) (fun y7 => some (.inl (z5, y7, M6)))) (fun J119 => if y4 ≤ (-20 : Int32) then (if y4 = (-28 : Int32) then (gdi (k1 - (1 : Int32)) 64 (jn1 (fun z12 => gdi (k1 - (1 : Int32)) 64 (nm (wi M3 (t + 11) (k1 - (1 : Int32)).toNatClampNeg z12) (fun M13 => J119 k1 M13))) (fun J85 => if (M3.1 (t + 11) (k1 - (1 : Int32)).toNatClampNeg) = 0 then (J85 (1 : Int32)) else (J85 (0 : Int32))))) else (nm (k1 + (-1 : Int32)) (fun y8 => gdi (y8 - (1 : Int32)) 64 (gdi y8 64 (bd (f_X11_reckon y4 (M3.1 (t + 11) (y8 - (1 : Int32)).toNatClampNeg) (M3.1 (t + 11) y8.toNatClampNeg) M3) (fun u9 M10 => gdi (y8 - (1 : Int32)) 64 (nm (wi M10 (t + 11) (y8 - (1 : Int32)).toNatClampNeg u9) (fun M11 => J119 y8 M11)))))))) else (jn1 (fun z14 => gdi k1 64 (nm (wi M3 (t + 11) k1.toNatClampNeg z14) (fun M15 => nm (k1 + (1 : Int32)) (fun y16 => J119 y16 M15)))) (fun J48 => if y4 < 0 then (gdi ((-1 : Int32) - y4) 4 (J48 (M3.1 (t + 10) ((-1 : Int32) - y4).toNatClampNeg))) else (J48 y4)))))))
def f_X11_valueNow (t : Nat) (r1_ : Nat) (n1_ : Nat) (x2_ : Int32) (M : Mem) : Option (Int32 × Mem) :=
  lop3 FU (l_X11_valueNow_5 t r1_ n1_ x2_) (0 : Int32) (0 : Int32) M
set_option maxRecDepth 20000 in
theorem c_X11_valueNow {G : Ctx} (hW : WFG G) {t : Nat} {r1_ : Nat} {n1_ : Nat} {x2_ : Int32} {M M' : Mem} {r : Int32} (h0 : hs G t (0, 11)) (h1 : hs G r1_ (1, n1_)) (hf : f_X11_valueNow t r1_ n1_ x2_ M = some (r, M')) : Ct G yX11_valueNow cX11_valueNow 6 (some .int) 1 22 [.ref t, .ref r1_, .int x2_] M (some (.int r)) M' := by
  refine ct_i hW (by decide +kernel) (Nat.le_of_ble_eq_true rfl) (fun w h hr => ?_)
  have h : Rb G cX11_valueNow RX11 6 1 22 w := h
  refine (?_ : E (fun q => q = (r, M')) (f_X11_valueNow t r1_ n1_ x2_ M) (w M 0 [(0, .ref t), (1, .ref r1_), (2, .int x2_)] [])) _ hf rfl
  unfold f_X11_valueNow
  refine E.m (h.iconst (v := (0 : Int32)) dX11_valueNow_0 (by decide)) ?_
  refine E.m (h.istore_n dX11_valueNow_1 (by decide) rfl) ?_
  refine E.m (h.iconst (v := (0 : Int32)) dX11_valueNow_2 (by decide)) ?_
  refine E.m (h.istore dX11_valueNow_3 (by decide) rfl) ?_
  refine E.m (h.sub [2, 3, 4, 1, 0] rfl) ?_
  refine E.loop3 (fun k1 k2 M3 => w M3 5 [(0, .ref t), (1, .ref r1_), (2, .int x2_), (3, .int k1), (4, .int k2)] []) (fun k1 k2 M3 => ?_) _ _ _ _
  unfold l_X11_valueNow_5
  refine E.m (h.iload 4 dX11_valueNow_5 rfl) ?_
  refine E.m (h.iload_n 2 dX11_valueNow_7 rfl) ?_
  refine E.br (fun k1 k2 => h.icmp_ge (tgt := 125) dX11_valueNow_8 (by decide) k1 k2) ?_ ?_
  · refine E.m (h.aload_n 0 dX11_valueNow_125 rfl) ?_
    refine E.m (h.get h0 lf_RX11_72 dX11_valueNow_126 fv_11_23) ?_
    refine E.m (h.iconst (v := (0 : Int32)) dX11_valueNow_129 (by decide)) ?_
    refine E.m (h.ialdk (k := 0) (hW.clo 50 h0 rfl) (by decide) rfl dX11_valueNow_130) ?_
    exact E.some (ret_i hr rfl dX11_valueNow_131)
  · refine E.m (h.aload_n 1 dX11_valueNow_11 rfl) ?_
    refine E.m (h.iload 4 dX11_valueNow_12 rfl) ?_
    refine E.gi (fun hi k => h.iald h1 hi dX11_valueNow_14 k) ?_
    refine E.m (h.istore dX11_valueNow_15 (by decide) rfl) ?_
    refine E.nmL (fun y4 => ?_)
    refine E.m (h.iload 0 dX11_valueNow_17 rfl) ?_
    refine E.m (h.bipush (v := (-20 : Int32)) dX11_valueNow_19 (by decide)) ?_
    refine E.join2 (fun z5 M6 => w M6 119 [(0, .ref t), (1, .ref r1_), (2, .int x2_), (3, .int z5), (4, .int k2), (5, .int y4)] []) (fun z5 M6 => ?_) (fun J119 hJ119 => ?_)
    · refine E.m (h.iinc (v := (1 : Int32)) 4 dX11_valueNow_119 rfl (by decide) (by decide) rfl) ?_
      refine E.nmL (fun y7 => ?_)
      refine E.m (h.goto (tgt := 5) dX11_valueNow_122 (by decide)) ?_
      refine E.m (h.sub [1, 2, 3, 4, 0] rfl) ?_
      exact E.some (fun q => q)
    refine E.br (fun k1 k2 => h.icmp_le (tgt := 55) dX11_valueNow_21 (by decide) k1 k2) ?_ ?_
    · refine E.m (h.iload 0 dX11_valueNow_55 rfl) ?_
      refine E.m (h.bipush (v := (-28 : Int32)) dX11_valueNow_57 (by decide)) ?_
      refine E.br (fun k1 k2 => h.icmp_ne (tgt := 89) dX11_valueNow_59 (by decide) k2 k1) ?_ ?_
      · refine E.m (h.aload_n 1 dX11_valueNow_62 rfl) ?_
        refine E.m (h.get h0 lf_RX11_72 dX11_valueNow_63 fv_11_23) ?_
        refine E.m (h.iload_n 4 dX11_valueNow_66 rfl) ?_
        refine E.m (h.iconst (v := (1 : Int32)) dX11_valueNow_67 (by decide)) ?_
        refine E.m (h.isub dX11_valueNow_68) ?_
        refine E.m (h.aload_n 1 dX11_valueNow_69 rfl) ?_
        refine E.m (h.get h0 lf_RX11_72 dX11_valueNow_70 fv_11_23) ?_
        refine E.m (h.iload_n 4 dX11_valueNow_73 rfl) ?_
        refine E.m (h.iconst (v := (1 : Int32)) dX11_valueNow_74 (by decide)) ?_
        refine E.m (h.isub dX11_valueNow_75) ?_
        refine E.gi (fun hi k => h.iald (hW.clo 50 h0 rfl) hi dX11_valueNow_76 k) ?_
        refine E.join1 (fun z12 => w M3 85 [(0, .ref t), (1, .ref r1_), (2, .int x2_), (3, .int k1), (4, .int k2), (5, .int y4)] [.int z12, .int (k1 - (1 : Int32)), .ref (t + 11)]) (fun z12 => ?_) (fun J85 hJ85 => ?_)
        · refine E.gi (fun hi k => h.iast (hW.clo 50 h0 rfl) hi dX11_valueNow_85 k) ?_
          refine E.nmM (fun M13 => ?_)
          refine E.m (h.goto (tgt := 119) dX11_valueNow_86 (by decide)) ?_
          exact hJ119 _ _
        refine E.br (fun k1 k2 => h.if_eq (tgt := 84) dX11_valueNow_77 (by decide) k1 k2) ?_ ?_
        · refine E.m (h.iconst (v := (1 : Int32)) dX11_valueNow_84 (by decide)) ?_
          refine E.m (h.sub [1, 2, 3, 4, 5, 0] rfl) ?_
          exact hJ85 _
        · refine E.m (h.iconst (v := (0 : Int32)) dX11_valueNow_80 (by decide)) ?_
          refine E.m (h.goto (tgt := 85) dX11_valueNow_81 (by decide)) ?_
          refine E.m (h.sub [1, 2, 3, 4, 5, 0] rfl) ?_
          exact hJ85 _
      · refine E.m (h.iinc (v := (-1 : Int32)) 4 dX11_valueNow_89 rfl (by decide) (by decide) rfl) ?_
        refine E.nmL (fun y8 => ?_)
        refine E.m (h.aload_n 2 dX11_valueNow_92 rfl) ?_
        refine E.m (h.get h0 lf_RX11_72 dX11_valueNow_93 fv_11_23) ?_
        refine E.m (h.iload_n 0 dX11_valueNow_96 rfl) ?_
        refine E.m (h.iconst (v := (1 : Int32)) dX11_valueNow_97 (by decide)) ?_
        refine E.m (h.isub dX11_valueNow_98) ?_
        refine E.m (h.iload 1 dX11_valueNow_99 rfl) ?_
        refine E.m (h.aload_n 2 dX11_valueNow_101 rfl) ?_
        refine E.m (h.get h0 lf_RX11_72 dX11_valueNow_102 fv_11_23) ?_
        refine E.m (h.iload_n 0 dX11_valueNow_105 rfl) ?_
        refine E.m (h.iconst (v := (1 : Int32)) dX11_valueNow_106 (by decide)) ?_
        refine E.m (h.isub dX11_valueNow_107) ?_
        refine E.gi (fun hi k => h.iald (hW.clo 50 h0 rfl) hi dX11_valueNow_108 k) ?_
        refine E.m (h.aload_n 2 dX11_valueNow_109 rfl) ?_
        refine E.m (h.get h0 lf_RX11_72 dX11_valueNow_110 fv_11_23) ?_
        refine E.m (h.iload_n 0 dX11_valueNow_113 rfl) ?_
        refine E.gi (fun hi k => h.iald (hW.clo 50 h0 rfl) hi dX11_valueNow_114 k) ?_
        refine E.bnd (fun u9 M10 => w M10 118 [(3, .int y8), (5, .int y4), (0, .ref t), (1, .ref r1_), (2, .int x2_), (4, .int k2)] [.int u9, .int (y8 - (1 : Int32)), .ref (t + 11)]) (fun u9 M10 hf k => h.callS (As := [.int y4, .int (M3.1 (t + 11) (y8 - (1 : Int32)).toNatClampNeg), .int (M3.1 (t + 11) y8.toNatClampNeg)]) (rest := [.int (y8 - (1 : Int32)), .ref (t + 11)]) (c_X11_reckon hW hf) lm_X11_reckon ls_m_X11_reckon ll_RX11_294 rfl rfl (Nat.le_of_ble_eq_true rfl) (by decide) dX11_valueNow_115 rfl k) (fun u9 M10 => ?_)
        refine E.gi (fun hi k => h.iast (hW.clo 50 h0 rfl) hi dX11_valueNow_118 k) ?_
        refine E.nmM (fun M11 => ?_)
        refine E.m (h.sub [2, 3, 4, 0, 5, 1] rfl) ?_
        exact hJ119 _ _
    · refine E.m (h.aload_n 1 dX11_valueNow_24 rfl) ?_
      refine E.m (h.get h0 lf_RX11_72 dX11_valueNow_25 fv_11_23) ?_
      refine E.m (h.iload_n 4 dX11_valueNow_28 rfl) ?_
      refine E.m (h.iload 0 dX11_valueNow_29 rfl) ?_
      refine E.join1 (fun z14 => w M3 48 [(0, .ref t), (1, .ref r1_), (2, .int x2_), (3, .int k1), (4, .int k2), (5, .int y4)] [.int z14, .int k1, .ref (t + 11)]) (fun z14 => ?_) (fun J48 hJ48 => ?_)
      · refine E.gi (fun hi k => h.iast (hW.clo 50 h0 rfl) hi dX11_valueNow_48 k) ?_
        refine E.nmM (fun M15 => ?_)
        refine E.m (h.iinc (v := (1 : Int32)) 3 dX11_valueNow_49 rfl (by decide) (by decide) rfl) ?_
        refine E.nmL (fun y16 => ?_)
        refine E.m (h.goto (tgt := 119) dX11_valueNow_52 (by decide)) ?_
        refine E.m (h.sub [1, 2, 3, 0, 4, 5] rfl) ?_
        exact hJ119 _ _
      refine E.br (fun k1 k2 => h.if_lt (tgt := 39) dX11_valueNow_31 (by decide) k1 k2) ?_ ?_
      · refine E.m (h.aload_n 1 dX11_valueNow_39 rfl) ?_
        refine E.m (h.get h0 lf_RX11_69 dX11_valueNow_40 fv_11_22) ?_
        refine E.m (h.iconst (v := (-1 : Int32)) dX11_valueNow_43 (by decide)) ?_
        refine E.m (h.iload 0 dX11_valueNow_44 rfl) ?_
        refine E.m (h.isub dX11_valueNow_46) ?_
        refine E.gi (fun hi k => h.iald (hW.clo 49 h0 rfl) hi dX11_valueNow_47 k) ?_
        refine E.m (h.sub [1, 2, 3, 4, 5, 0] rfl) ?_
        exact hJ48 _
      · refine E.m (h.iload 0 dX11_valueNow_34 rfl) ?_
        refine E.m (h.goto (tgt := 48) dX11_valueNow_36 (by decide)) ?_
        refine E.m (h.sub [1, 2, 3, 4, 5, 0] rfl) ?_
        exact hJ48 _
def l_X11_ruleNow_112 (t : Nat) (x1_ : Int32) (y4 : Int32) (k8 : Int32) (M9 : Mem) : Option ((Int32 × Mem) ⊕ ((Int32 × Int32) ⊕ ((Int32 × Int32) ⊕ (Int32 × Mem)))) :=
  if (4 : Int32) ≤ k8 then (jn2 (fun z10 M11 => gdi y4 2048 (nm (wi M11 (t + 13) y4.toNatClampNeg z10) (fun M12 => gdi y4 2048 (nm (wi M12 (t + 14) y4.toNatClampNeg (1 : Int32)) (fun M13 => gdi y4 2048 (some (.inr (.inr (.inr (M13.1 (t + 13) y4.toNatClampNeg, M13)))))))))) (fun J184 => if x1_ = 0 then (bd (f_X11_valueNow t (t + 5) 1400 (M9.1 (t + 3) 8) M9) (fun u14 M15 => J184 u14 M15)) else (bd (f_X11_valueNow t (t + 6) 1400 (M9.1 (t + 3) 9) M9) (fun u16 M17 => J184 u16 M17)))) else (gdi k8 4 (gdi (((4 : Int32) * y4) + k8) 8192 (nm (wi M9 (t + 12) (((4 : Int32) * y4) + k8).toNatClampNeg (M9.1 (t + 10) k8.toNatClampNeg)) (fun M18 => nm (k8 + (1 : Int32)) (fun y19 => some (.inl (y19, M18)))))))
def l_X11_ruleNow_55 (t : Nat) (x1_ : Int32) (M : Mem) (y4 : Int32) (k6 : Int32) (k7 : Int32) : Option ((Int32 × Int32) ⊕ ((Int32 × Int32) ⊕ (Int32 × Mem))) :=
  jn0 (fun _ => if k6 = 0 then (lop2 FU (l_X11_ruleNow_112 t x1_ y4) (0 : Int32) M) else (gdi y4 2048 (some (.inr (.inr (M.1 (t + 13) y4.toNatClampNeg, M)))))) (fun J98 => if k6 = 0 then (J98 ()) else (if (4 : Int32) ≤ k7 then (J98 ()) else (gdi (((4 : Int32) * y4) + k7) 8192 (gdi k7 4 (jn1 (fun z20 => nm (k7 + (1 : Int32)) (fun y21 => some (.inl (z20, y21)))) (fun J91 => if (M.1 (t + 12) (((4 : Int32) * y4) + k7).toNatClampNeg) = (M.1 (t + 10) k7.toNatClampNeg) then (J91 (1 : Int32)) else (J91 (0 : Int32))))))))
def l_X11_ruleNow_4 (t : Nat) (x1_ : Int32) (M : Mem) (k1 : Int32) (k2 : Int32) : Option ((Int32 × Int32) ⊕ (Int32 × Mem)) :=
  if (4 : Int32) ≤ k2 then (jn1 (fun z3 => nm ((k1 &&& (1023 : Int32)) + z3) (fun y4 => gdi y4 2048 (nm (M.1 (t + 14) y4.toNatClampNeg) (fun y5 => lop2 FU (l_X11_ruleNow_55 t x1_ M y4) y5 (0 : Int32))))) (fun J43 => if x1_ = 0 then (J43 (0 : Int32)) else (J43 (1024 : Int32)))) else (gdi k2 4 (nm (((31 : Int32) * k1) + (M.1 (t + 10) k2.toNatClampNeg)) (fun y22 => nm (k2 + (1 : Int32)) (fun y23 => some (.inl (y22, y23))))))
def f_X11_ruleNow (t : Nat) (x1_ : Int32) (M : Mem) : Option (Int32 × Mem) :=
  lop2 FU (l_X11_ruleNow_4 t x1_ M) (0 : Int32) (0 : Int32)
set_option maxRecDepth 20000 in
theorem c_X11_ruleNow {G : Ctx} (hW : WFG G) {t : Nat} {x1_ : Int32} {M M' : Mem} {r : Int32} (h0 : hs G t (0, 11)) (hf : f_X11_ruleNow t x1_ M = some (r, M')) : Ct G yX11_ruleNow cX11_ruleNow 5 (some .int) 2 47 [.ref t, .int x1_] M (some (.int r)) M' := by
  refine ct_i hW (by decide +kernel) (Nat.le_of_ble_eq_true rfl) (fun w h hr => ?_)
  have h : Rb G cX11_ruleNow RX11 5 2 47 w := h
  refine (?_ : E (fun q => q = (r, M')) (f_X11_ruleNow t x1_ M) (w M 0 [(0, .ref t), (1, .int x1_)] [])) _ hf rfl
  unfold f_X11_ruleNow
  refine E.m (h.iconst (v := (0 : Int32)) dX11_ruleNow_0 (by decide)) ?_
  refine E.m (h.istore_n dX11_ruleNow_1 (by decide) rfl) ?_
  refine E.m (h.iconst (v := (0 : Int32)) dX11_ruleNow_2 (by decide)) ?_
  refine E.m (h.istore_n dX11_ruleNow_3 (by decide) rfl) ?_
  refine E.m (h.sub [2, 3, 1, 0] rfl) ?_
  refine E.loop2 (fun k1 k2 => w M 4 [(0, .ref t), (1, .int x1_), (2, .int k1), (3, .int k2)] []) (fun k1 k2 => ?_) _ _ _
  unfold l_X11_ruleNow_4
  refine E.m (h.iload_n 3 dX11_ruleNow_4 rfl) ?_
  refine E.m (h.iconst (v := (4 : Int32)) dX11_ruleNow_5 (by decide)) ?_
  refine E.br (fun k1 k2 => h.icmp_ge (tgt := 27) dX11_ruleNow_6 (by decide) k1 k2) ?_ ?_
  · refine E.m (h.iload_n 2 dX11_ruleNow_27 rfl) ?_
    refine E.m (h.sipush (v := (1023 : Int32)) dX11_ruleNow_28 (by decide)) ?_
    refine E.m (h.iand dX11_ruleNow_31) ?_
    refine E.m (h.iload_n 1 dX11_ruleNow_32 rfl) ?_
    refine E.join1 (fun z3 => w M 43 [(0, .ref t), (1, .int x1_), (2, .int k1), (3, .int k2)] [.int z3, .int (k1 &&& (1023 : Int32))]) (fun z3 => ?_) (fun J43 hJ43 => ?_)
    · refine E.m (h.iadd dX11_ruleNow_43) ?_
      refine E.m (h.istore_n dX11_ruleNow_44 (by decide) rfl) ?_
      refine E.nmL (fun y4 => ?_)
      refine E.m (h.aload_n 1 dX11_ruleNow_45 rfl) ?_
      refine E.m (h.get h0 lf_RX11_81 dX11_ruleNow_46 fv_11_28) ?_
      refine E.m (h.iload_n 0 dX11_ruleNow_49 rfl) ?_
      refine E.gi (fun hi k => h.zald (hW.clo 53 h0 rfl) hi dX11_ruleNow_50 k) ?_
      refine E.m (h.istore_n dX11_ruleNow_51 (by decide) rfl) ?_
      refine E.nmL (fun y5 => ?_)
      refine E.m (h.iconst (v := (0 : Int32)) dX11_ruleNow_52 (by decide)) ?_
      refine E.m (h.istore dX11_ruleNow_53 (by decide) rfl) ?_
      refine E.m (h.sub [3, 4, 2, 1, 0] rfl) ?_
      refine E.loop2 (fun k6 k7 => w M 55 [(0, .ref t), (1, .int x1_), (2, .int y4), (3, .int k6), (4, .int k7)] []) (fun k6 k7 => ?_) _ _ _
      unfold l_X11_ruleNow_55
      refine E.m (h.iload_n 3 dX11_ruleNow_55 rfl) ?_
      refine E.join0 (fun _ => w M 98 [(0, .ref t), (1, .int x1_), (2, .int y4), (3, .int k6), (4, .int k7)] []) (fun _ => ?_) (fun J98 hJ98 => ?_)
      · refine E.m (h.iload_n 3 dX11_ruleNow_98 rfl) ?_
        refine E.br (fun k1 k2 => h.if_eq (tgt := 109) dX11_ruleNow_99 (by decide) k1 k2) ?_ ?_
        · refine E.m (h.iconst (v := (0 : Int32)) dX11_ruleNow_109 (by decide)) ?_
          refine E.m (h.istore dX11_ruleNow_110 (by decide) rfl) ?_
          refine E.m (h.sub [1, 2, 3, 4, 0] rfl) ?_
          refine E.loop2 (fun k8 M9 => w M9 112 [(0, .ref t), (1, .int x1_), (2, .int y4), (3, .int k6), (4, .int k8)] []) (fun k8 M9 => ?_) _ _ _
          unfold l_X11_ruleNow_112
          refine E.m (h.iload 4 dX11_ruleNow_112 rfl) ?_
          refine E.m (h.iconst (v := (4 : Int32)) dX11_ruleNow_114 (by decide)) ?_
          refine E.br (fun k1 k2 => h.icmp_ge (tgt := 142) dX11_ruleNow_115 (by decide) k1 k2) ?_ ?_
          · refine E.m (h.aload_n 0 dX11_ruleNow_142 rfl) ?_
            refine E.m (h.get h0 lf_RX11_78 dX11_ruleNow_143 fv_11_27) ?_
            refine E.m (h.iload_n 2 dX11_ruleNow_146 rfl) ?_
            refine E.m (h.iload_n 1 dX11_ruleNow_147 rfl) ?_
            refine E.join2 (fun z10 M11 => w M11 184 [(0, .ref t), (1, .int x1_), (2, .int y4), (3, .int k6), (4, .int k8)] [.int z10, .int y4, .ref (t + 13)]) (fun z10 M11 => ?_) (fun J184 hJ184 => ?_)
            · refine E.gi (fun hi k => h.iast (hW.clo 52 h0 rfl) hi dX11_ruleNow_184 k) ?_
              refine E.nmM (fun M12 => ?_)
              refine E.m (h.aload_n 0 dX11_ruleNow_185 rfl) ?_
              refine E.m (h.get h0 lf_RX11_81 dX11_ruleNow_186 fv_11_28) ?_
              refine E.m (h.iload_n 2 dX11_ruleNow_189 rfl) ?_
              refine E.m (h.iconst (v := (1 : Int32)) dX11_ruleNow_190 (by decide)) ?_
              refine E.gi (fun hi k => h.zast (hW.clo 53 h0 rfl) hi (by decide) dX11_ruleNow_191 k) ?_
              refine E.nmM (fun M13 => ?_)
              refine E.m (h.aload_n 0 dX11_ruleNow_192 rfl) ?_
              refine E.m (h.get h0 lf_RX11_78 dX11_ruleNow_193 fv_11_27) ?_
              refine E.m (h.iload_n 2 dX11_ruleNow_196 rfl) ?_
              refine E.gi (fun hi k => h.iald (hW.clo 52 h0 rfl) hi dX11_ruleNow_197 k) ?_
              exact E.some (ret_i hr rfl dX11_ruleNow_198)
            refine E.br (fun k1 k2 => h.if_eq (tgt := 169) dX11_ruleNow_148 (by decide) k1 k2) ?_ ?_
            · refine E.m (h.aload_n 0 dX11_ruleNow_169 rfl) ?_
              refine E.m (h.aload_n 0 dX11_ruleNow_170 rfl) ?_
              refine E.m (h.get h0 lf_RX11_50 dX11_ruleNow_171 fv_11_5) ?_
              refine E.m (h.aload_n 0 dX11_ruleNow_174 rfl) ?_
              refine E.m (h.get h0 lf_RX11_44 dX11_ruleNow_175 fv_11_3) ?_
              refine E.m (h.bipush (v := (8 : Int32)) dX11_ruleNow_178 (by decide)) ?_
              refine E.m (h.ialdk (k := 8) (hW.clo 42 h0 rfl) (by decide) rfl dX11_ruleNow_180) ?_
              refine E.bnd (fun u14 M15 => w M15 184 [(0, .ref t), (1, .int x1_), (2, .int y4), (3, .int k6), (4, .int k8)] [.int u14, .int y4, .ref (t + 13)]) (fun u14 M15 hf k => h.callV (As := [.ref (t + 5), .int (M9.1 (t + 3) 8)]) (rest := [.int y4, .ref (t + 13)]) (c_X11_valueNow hW h0 (hW.clo 44 h0 rfl) hf) lm_X11_valueNow lv_m_X11_valueNow ll_RX11_290 h0 lc_11 rfl rfl (Nat.le_of_ble_eq_true rfl) (by decide) dX11_ruleNow_181 rfl k) (fun u14 M15 => ?_)
              exact hJ184 _ _
            · refine E.m (h.aload_n 0 dX11_ruleNow_151 rfl) ?_
              refine E.m (h.aload_n 0 dX11_ruleNow_152 rfl) ?_
              refine E.m (h.get h0 lf_RX11_53 dX11_ruleNow_153 fv_11_6) ?_
              refine E.m (h.aload_n 0 dX11_ruleNow_156 rfl) ?_
              refine E.m (h.get h0 lf_RX11_44 dX11_ruleNow_157 fv_11_3) ?_
              refine E.m (h.bipush (v := (9 : Int32)) dX11_ruleNow_160 (by decide)) ?_
              refine E.m (h.ialdk (k := 9) (hW.clo 42 h0 rfl) (by decide) rfl dX11_ruleNow_162) ?_
              refine E.bnd (fun u16 M17 => w M17 166 [(0, .ref t), (1, .int x1_), (2, .int y4), (3, .int k6), (4, .int k8)] [.int u16, .int y4, .ref (t + 13)]) (fun u16 M17 hf k => h.callV (As := [.ref (t + 6), .int (M9.1 (t + 3) 9)]) (rest := [.int y4, .ref (t + 13)]) (c_X11_valueNow hW h0 (hW.clo 45 h0 rfl) hf) lm_X11_valueNow lv_m_X11_valueNow ll_RX11_290 h0 lc_11 rfl rfl (Nat.le_of_ble_eq_true rfl) (by decide) dX11_ruleNow_163 rfl k) (fun u16 M17 => ?_)
              refine E.m (h.goto (tgt := 184) dX11_ruleNow_166 (by decide)) ?_
              exact hJ184 _ _
          · refine E.m (h.aload_n 0 dX11_ruleNow_118 rfl) ?_
            refine E.m (h.get h0 lf_RX11_75 dX11_ruleNow_119 fv_11_26) ?_
            refine E.m (h.iconst (v := (4 : Int32)) dX11_ruleNow_122 (by decide)) ?_
            refine E.m (h.iload_n 2 dX11_ruleNow_123 rfl) ?_
            refine E.m (h.imul dX11_ruleNow_124) ?_
            refine E.m (h.iload 4 dX11_ruleNow_125 rfl) ?_
            refine E.m (h.iadd dX11_ruleNow_127) ?_
            refine E.m (h.aload_n 0 dX11_ruleNow_128 rfl) ?_
            refine E.m (h.get h0 lf_RX11_69 dX11_ruleNow_129 fv_11_22) ?_
            refine E.m (h.iload 4 dX11_ruleNow_132 rfl) ?_
            refine E.gi (fun hi k => h.iald (hW.clo 49 h0 rfl) hi dX11_ruleNow_134 k) ?_
            refine E.gi (fun hi k => h.iast (hW.clo 51 h0 rfl) hi dX11_ruleNow_135 k) ?_
            refine E.nmM (fun M18 => ?_)
            refine E.m (h.iinc (v := (1 : Int32)) 4 dX11_ruleNow_136 rfl (by decide) (by decide) rfl) ?_
            refine E.nmL (fun y19 => ?_)
            refine E.m (h.goto (tgt := 112) dX11_ruleNow_139 (by decide)) ?_
            refine E.m (h.sub [1, 2, 3, 4, 0] rfl) ?_
            exact E.some (fun q => q)
        · refine E.m (h.aload_n 0 dX11_ruleNow_102 rfl) ?_
          refine E.m (h.get h0 lf_RX11_78 dX11_ruleNow_103 fv_11_27) ?_
          refine E.m (h.iload_n 2 dX11_ruleNow_106 rfl) ?_
          refine E.gi (fun hi k => h.iald (hW.clo 52 h0 rfl) hi dX11_ruleNow_107 k) ?_
          exact E.some (ret_i hr rfl dX11_ruleNow_108)
      refine E.br (fun k1 k2 => h.if_eq (tgt := 98) dX11_ruleNow_56 (by decide) k1 k2) ?_ ?_
      · exact hJ98 ()
      · refine E.m (h.iload 4 dX11_ruleNow_59 rfl) ?_
        refine E.m (h.iconst (v := (4 : Int32)) dX11_ruleNow_61 (by decide)) ?_
        refine E.br (fun k1 k2 => h.icmp_ge (tgt := 98) dX11_ruleNow_62 (by decide) k1 k2) ?_ ?_
        · exact hJ98 ()
        · refine E.m (h.aload_n 0 dX11_ruleNow_65 rfl) ?_
          refine E.m (h.get h0 lf_RX11_75 dX11_ruleNow_66 fv_11_26) ?_
          refine E.m (h.iconst (v := (4 : Int32)) dX11_ruleNow_69 (by decide)) ?_
          refine E.m (h.iload_n 2 dX11_ruleNow_70 rfl) ?_
          refine E.m (h.imul dX11_ruleNow_71) ?_
          refine E.m (h.iload 4 dX11_ruleNow_72 rfl) ?_
          refine E.m (h.iadd dX11_ruleNow_74) ?_
          refine E.gi (fun hi k => h.iald (hW.clo 51 h0 rfl) hi dX11_ruleNow_75 k) ?_
          refine E.m (h.aload_n 0 dX11_ruleNow_76 rfl) ?_
          refine E.m (h.get h0 lf_RX11_69 dX11_ruleNow_77 fv_11_22) ?_
          refine E.m (h.iload 4 dX11_ruleNow_80 rfl) ?_
          refine E.gi (fun hi k => h.iald (hW.clo 49 h0 rfl) hi dX11_ruleNow_82 k) ?_
          refine E.join1 (fun z20 => w M 91 [(0, .ref t), (1, .int x1_), (2, .int y4), (3, .int k6), (4, .int k7)] [.int z20]) (fun z20 => ?_) (fun J91 hJ91 => ?_)
          · refine E.m (h.istore_n dX11_ruleNow_91 (by decide) rfl) ?_
            refine E.m (h.iinc (v := (1 : Int32)) 4 dX11_ruleNow_92 rfl (by decide) (by decide) rfl) ?_
            refine E.nmL (fun y21 => ?_)
            refine E.m (h.goto (tgt := 55) dX11_ruleNow_95 (by decide)) ?_
            refine E.m (h.sub [2, 3, 4, 1, 0] rfl) ?_
            exact E.some (fun q => q)
          refine E.br (fun k1 k2 => h.icmp_ne (tgt := 90) dX11_ruleNow_83 (by decide) k2 k1) ?_ ?_
          · refine E.m (h.iconst (v := (1 : Int32)) dX11_ruleNow_86 (by decide)) ?_
            refine E.m (h.goto (tgt := 91) dX11_ruleNow_87 (by decide)) ?_
            exact hJ91 _
          · refine E.m (h.iconst (v := (0 : Int32)) dX11_ruleNow_90 (by decide)) ?_
            exact hJ91 _
    refine E.br (fun k1 k2 => h.if_eq (tgt := 42) dX11_ruleNow_33 (by decide) k1 k2) ?_ ?_
    · refine E.m (h.iconst (v := (0 : Int32)) dX11_ruleNow_42 (by decide)) ?_
      exact hJ43 _
    · refine E.m (h.sipush (v := (1024 : Int32)) dX11_ruleNow_36 (by decide)) ?_
      refine E.m (h.goto (tgt := 43) dX11_ruleNow_39 (by decide)) ?_
      exact hJ43 _
  · refine E.m (h.bipush (v := (31 : Int32)) dX11_ruleNow_9 (by decide)) ?_
    refine E.m (h.iload_n 2 dX11_ruleNow_11 rfl) ?_
    refine E.m (h.imul dX11_ruleNow_12) ?_
    refine E.m (h.aload_n 0 dX11_ruleNow_13 rfl) ?_
    refine E.m (h.get h0 lf_RX11_69 dX11_ruleNow_14 fv_11_22) ?_
    refine E.m (h.iload_n 3 dX11_ruleNow_17 rfl) ?_
    refine E.gi (fun hi k => h.iald (hW.clo 49 h0 rfl) hi dX11_ruleNow_18 k) ?_
    refine E.m (h.iadd dX11_ruleNow_19) ?_
    refine E.m (h.istore_n dX11_ruleNow_20 (by decide) rfl) ?_
    refine E.nmL (fun y22 => ?_)
    refine E.m (h.iinc (v := (1 : Int32)) 3 dX11_ruleNow_21 rfl (by decide) (by decide) rfl) ?_
    refine E.nmL (fun y23 => ?_)
    refine E.m (h.goto (tgt := 4) dX11_ruleNow_24 (by decide)) ?_
    refine E.m (h.sub [2, 3, 1, 0] rfl) ?_
    exact E.some (fun q => q)
def f_X11_isLost (t : Nat) (M : Mem) : Option (Int32 × Mem) :=
  jn1 (fun M1 => jn2 (fun z2 M3 => gdp (z2 = 0 ∨ z2 = 1) (some (z2, M3))) (fun J91 => jn1 (fun M4 => J91 (1 : Int32) M4) (fun J86 => jn1 (fun M5 => if (M5.1 (t + 8) 31) = (40 : Int32) then (J86 M5) else (J91 (0 : Int32) M5)) (fun J74 => if (M1.1 (t + 3) 9) ≤ 0 then (J74 M1) else (bd (f_X11_ruleNow t (1 : Int32) M1) (fun u6 M7 => if 0 < u6 then (J86 M7) else (J74 M7))))))) (fun J56 => if (M.1 t 29) ≤ 0 then (if (M.1 (t + 8) 25) ≤ 0 then (J56 M) else (nm (wi M (t + 8) 25 ((M.1 (t + 8) 25) - (1 : Int32))) (fun M8 => some ((1 : Int32), M8)))) else (nm (wi M t 29 ((M.1 t 29) - (1 : Int32))) (fun M9 => bd (f_X11_isOf (M9.1 t 30) (M9.1 t 29) M9) (fun u10 M11 => if u10 = 0 then (J56 M11) else (some ((1 : Int32), M11))))))
set_option maxRecDepth 20000 in
theorem c_X11_isLost {G : Ctx} (hW : WFG G) {t : Nat} {M M' : Mem} {r : Int32} (h0 : hs G t (0, 11)) (hf : f_X11_isLost t M = some (r, M')) : Ct G yX11_isLost cX11_isLost 1 (some .boolean) 3 71 [.ref t] M (some (.int r)) M' := by
  refine ct_i hW (by decide +kernel) (Nat.le_of_ble_eq_true rfl) (fun w h hr => ?_)
  have h : Rb G cX11_isLost RX11 1 3 71 w := h
  refine (?_ : E (fun q => q = (r, M')) (f_X11_isLost t M) (w M 0 [(0, .ref t)] [])) _ hf rfl
  unfold f_X11_isLost
  refine E.m (h.aload_n 0 dX11_isLost_0 rfl) ?_
  refine E.m (h.get h0 lf_RX11_298 dX11_isLost_1 fv_11_29) ?_
  refine E.join1 (fun M1 => w M1 56 [(0, .ref t)] []) (fun M1 => ?_) (fun J56 hJ56 => ?_)
  · refine E.m (h.aload_n 0 dX11_isLost_56 rfl) ?_
    refine E.m (h.get h0 lf_RX11_44 dX11_isLost_57 fv_11_3) ?_
    refine E.m (h.bipush (v := (9 : Int32)) dX11_isLost_60 (by decide)) ?_
    refine E.m (h.ialdk (k := 9) (hW.clo 42 h0 rfl) (by decide) rfl dX11_isLost_62) ?_
    refine E.join2 (fun z2 M3 => w M3 91 [(0, .ref t)] [.int z2]) (fun z2 M3 => ?_) (fun J91 hJ91 => ?_)
    · refine E.gd (fun hc k => k hc) (fun hc => E.imp fun hc => ?_)
      exact E.some (ret_i hr (bl_n hc).1 dX11_isLost_91)
    refine E.join1 (fun M4 => w M4 86 [(0, .ref t)] []) (fun M4 => ?_) (fun J86 hJ86 => ?_)
    · refine E.m (h.iconst (v := (1 : Int32)) dX11_isLost_86 (by decide)) ?_
      refine E.m (h.goto (tgt := 91) dX11_isLost_87 (by decide)) ?_
      exact hJ91 _ _
    refine E.join1 (fun M5 => w M5 74 [(0, .ref t)] []) (fun M5 => ?_) (fun J74 hJ74 => ?_)
    · refine E.m (h.aload_n 0 dX11_isLost_74 rfl) ?_
      refine E.m (h.get h0 lf_RX11_59 dX11_isLost_75 fv_11_8) ?_
      refine E.m (h.bipush (v := (31 : Int32)) dX11_isLost_78 (by decide)) ?_
      refine E.m (h.ialdk (k := 31) (hW.clo 47 h0 rfl) (by decide) rfl dX11_isLost_80) ?_
      refine E.m (h.bipush (v := (40 : Int32)) dX11_isLost_81 (by decide)) ?_
      refine E.br (fun k1 k2 => h.icmp_ne (tgt := 90) dX11_isLost_83 (by decide) k2 k1) ?_ ?_
      · exact hJ86 _
      · refine E.m (h.iconst (v := (0 : Int32)) dX11_isLost_90 (by decide)) ?_
        exact hJ91 _ _
    refine E.br (fun k1 k2 => h.if_le (tgt := 74) dX11_isLost_63 (by decide) k1 k2) ?_ ?_
    · exact hJ74 _
    · refine E.m (h.aload_n 0 dX11_isLost_66 rfl) ?_
      refine E.m (h.iconst (v := (1 : Int32)) dX11_isLost_67 (by decide)) ?_
      refine E.bnd (fun u6 M7 => w M7 71 [(0, .ref t)] [.int u6]) (fun u6 M7 hf k => h.callV (As := [.int (1 : Int32)]) (rest := []) (c_X11_ruleNow hW h0 hf) lm_X11_ruleNow lv_m_X11_ruleNow ll_RX11_304 h0 lc_11 rfl rfl (Nat.le_of_ble_eq_true rfl) (by decide) dX11_isLost_68 rfl k) (fun u6 M7 => ?_)
      refine E.br (fun k1 k2 => h.if_gt (tgt := 86) dX11_isLost_71 (by decide) k1 k2) ?_ ?_
      · exact hJ86 _
      · exact hJ74 _
  refine E.br (fun k1 k2 => h.if_le (tgt := 33) dX11_isLost_4 (by decide) k1 k2) ?_ ?_
  · refine E.m (h.aload_n 0 dX11_isLost_33 rfl) ?_
    refine E.m (h.get h0 lf_RX11_59 dX11_isLost_34 fv_11_8) ?_
    refine E.m (h.bipush (v := (25 : Int32)) dX11_isLost_37 (by decide)) ?_
    refine E.m (h.ialdk (k := 25) (hW.clo 47 h0 rfl) (by decide) rfl dX11_isLost_39) ?_
    refine E.br (fun k1 k2 => h.if_le (tgt := 56) dX11_isLost_40 (by decide) k1 k2) ?_ ?_
    · exact hJ56 _
    · refine E.m (h.aload_n 0 dX11_isLost_43 rfl) ?_
      refine E.m (h.get h0 lf_RX11_59 dX11_isLost_44 fv_11_8) ?_
      refine E.m (h.bipush (v := (25 : Int32)) dX11_isLost_47 (by decide)) ?_
      refine E.m (h.dup2 dX11_isLost_49 rfl rfl) ?_
      refine E.m (h.ialdk (k := 25) (hW.clo 47 h0 rfl) (by decide) rfl dX11_isLost_50) ?_
      refine E.m (h.iconst (v := (1 : Int32)) dX11_isLost_51 (by decide)) ?_
      refine E.m (h.isub dX11_isLost_52) ?_
      refine E.m (h.iastk (k := 25) (hW.clo 47 h0 rfl) (by decide) rfl dX11_isLost_53) ?_
      refine E.nmM (fun M8 => ?_)
      refine E.m (h.iconst (v := (1 : Int32)) dX11_isLost_54 (by decide)) ?_
      exact E.some (ret_i hr rfl dX11_isLost_55)
  · refine E.m (h.aload_n 0 dX11_isLost_7 rfl) ?_
    refine E.m (h.dup dX11_isLost_8 rfl) ?_
    refine E.m (h.get h0 lf_RX11_298 dX11_isLost_9 fv_11_29) ?_
    refine E.m (h.iconst (v := (1 : Int32)) dX11_isLost_12 (by decide)) ?_
    refine E.m (h.isub dX11_isLost_13) ?_
    refine E.m (h.puti h0 lp_RX11_298 rfl dX11_isLost_14) ?_
    refine E.nmM (fun M9 => ?_)
    refine E.m (h.aload_n 0 dX11_isLost_17 rfl) ?_
    refine E.m (h.get h0 lf_RX11_301 dX11_isLost_18 fv_11_30) ?_
    refine E.m (h.aload_n 0 dX11_isLost_21 rfl) ?_
    refine E.m (h.get h0 lf_RX11_298 dX11_isLost_22 fv_11_29) ?_
    refine E.bnd (fun u10 M11 => w M11 28 [(0, .ref t)] [.int u10]) (fun u10 M11 hf k => h.callS (As := [.int (M9.1 t 30), .int (M9.1 t 29)]) (rest := []) (c_X11_isOf hW hf) lm_X11_isOf ls_m_X11_isOf ll_RX11_240 rfl rfl (Nat.le_of_ble_eq_true rfl) (by decide) dX11_isLost_25 rfl k) (fun u10 M11 => ?_)
    refine E.br (fun k1 k2 => h.if_eq (tgt := 56) dX11_isLost_28 (by decide) k1 k2) ?_ ?_
    · exact hJ56 _
    · refine E.m (h.iconst (v := (1 : Int32)) dX11_isLost_31 (by decide)) ?_
      exact E.some (ret_i hr rfl dX11_isLost_32)
def f_X11_send (t : Nat) (M : Mem) : Option (Unit × Mem) :=
  nm (wi M (t + 10) 0 (M.1 (t + 8) 2)) (fun M1 => nm (wi M1 (t + 10) 1 (M1.1 (t + 8) 0)) (fun M2 => nm (wi M2 (t + 10) 2 (M2.1 (t + 8) 24)) (fun M3 => nm (wi M3 (t + 10) 3 (M3.1 (t + 8) 31)) (fun M4 => jn2 (fun z5 M6 => bd (f_X11_isLost t M6) (fun u7 M8 => jn1 (fun M9 => nm (wi M9 (t + 8) 24 z5) (fun M10 => nm (wi M10 (t + 8) 2 ((M10.1 (t + 8) 2) + (1 : Int32))) (fun M11 => some ((), M11)))) (fun J174 => if u7 = 0 then (nm ((33 : Int32) + ((3 : Int32) * (M8.1 (t + 8) 31))) (fun y12 => gdi y12 665 (nm (wi M8 (t + 8) y12.toNatClampNeg (M8.1 (t + 8) 2)) (fun M13 => gdi (y12 + (1 : Int32)) 665 (nm (wi M13 (t + 8) (y12 + (1 : Int32)).toNatClampNeg (((M13.1 (t + 8) 0) + z5) + (M13.1 (t + 8) 26))) (fun M14 => gdi (y12 + (2 : Int32)) 665 (nm (wi M14 (t + 8) (y12 + (2 : Int32)).toNatClampNeg ((M14.1 (t + 8) 0) &&& (255 : Int32))) (fun M15 => nm (wi M15 (t + 8) 31 ((M15.1 (t + 8) 31) + (1 : Int32))) (fun M16 => J174 M16))))))))) else (nm (wi M8 (t + 8) 3 ((M8.1 (t + 8) 3) + (1 : Int32))) (fun M17 => J174 M17))))) (fun J75 => if (M4.1 (t + 3) 8) = 0 then (J75 (3 : Int32) M4) else (bd (f_X11_ruleNow t (0 : Int32) M4) (fun u18 M19 => bd (f_X11_within u18 (0 : Int32) (60 : Int32) M19) (fun u20 M21 => J75 u20 M21))))))))
set_option maxRecDepth 20000 in
theorem c_X11_send {G : Ctx} (hW : WFG G) {t : Nat} {M M' : Mem} (h0 : hs G t (0, 11)) (hf : f_X11_send t M = some ((), M')) : Ct G yX11_send cX11_send 3 none 4 91 [.ref t] M none M' := by
  refine ct_v hW (by decide +kernel) (Nat.le_of_ble_eq_true rfl) (fun w h hr => ?_)
  have h : Rb G cX11_send RX11 3 4 91 w := h
  refine (?_ : E (fun q => q = ((), M')) (f_X11_send t M) (w M 0 [(0, .ref t)] [])) _ hf rfl
  unfold f_X11_send
  refine E.m (h.aload_n 0 dX11_send_0 rfl) ?_
  refine E.m (h.get h0 lf_RX11_69 dX11_send_1 fv_11_22) ?_
  refine E.m (h.iconst (v := (0 : Int32)) dX11_send_4 (by decide)) ?_
  refine E.m (h.aload_n 0 dX11_send_5 rfl) ?_
  refine E.m (h.get h0 lf_RX11_59 dX11_send_6 fv_11_8) ?_
  refine E.m (h.iconst (v := (2 : Int32)) dX11_send_9 (by decide)) ?_
  refine E.m (h.ialdk (k := 2) (hW.clo 47 h0 rfl) (by decide) rfl dX11_send_10) ?_
  refine E.m (h.iastk (k := 0) (hW.clo 49 h0 rfl) (by decide) rfl dX11_send_11) ?_
  refine E.nmM (fun M1 => ?_)
  refine E.m (h.aload_n 0 dX11_send_12 rfl) ?_
  refine E.m (h.get h0 lf_RX11_69 dX11_send_13 fv_11_22) ?_
  refine E.m (h.iconst (v := (1 : Int32)) dX11_send_16 (by decide)) ?_
  refine E.m (h.aload_n 0 dX11_send_17 rfl) ?_
  refine E.m (h.get h0 lf_RX11_59 dX11_send_18 fv_11_8) ?_
  refine E.m (h.iconst (v := (0 : Int32)) dX11_send_21 (by decide)) ?_
  refine E.m (h.ialdk (k := 0) (hW.clo 47 h0 rfl) (by decide) rfl dX11_send_22) ?_
  refine E.m (h.iastk (k := 1) (hW.clo 49 h0 rfl) (by decide) rfl dX11_send_23) ?_
  refine E.nmM (fun M2 => ?_)
  refine E.m (h.aload_n 0 dX11_send_24 rfl) ?_
  refine E.m (h.get h0 lf_RX11_69 dX11_send_25 fv_11_22) ?_
  refine E.m (h.iconst (v := (2 : Int32)) dX11_send_28 (by decide)) ?_
  refine E.m (h.aload_n 0 dX11_send_29 rfl) ?_
  refine E.m (h.get h0 lf_RX11_59 dX11_send_30 fv_11_8) ?_
  refine E.m (h.bipush (v := (24 : Int32)) dX11_send_33 (by decide)) ?_
  refine E.m (h.ialdk (k := 24) (hW.clo 47 h0 rfl) (by decide) rfl dX11_send_35) ?_
  refine E.m (h.iastk (k := 2) (hW.clo 49 h0 rfl) (by decide) rfl dX11_send_36) ?_
  refine E.nmM (fun M3 => ?_)
  refine E.m (h.aload_n 0 dX11_send_37 rfl) ?_
  refine E.m (h.get h0 lf_RX11_69 dX11_send_38 fv_11_22) ?_
  refine E.m (h.iconst (v := (3 : Int32)) dX11_send_41 (by decide)) ?_
  refine E.m (h.aload_n 0 dX11_send_42 rfl) ?_
  refine E.m (h.get h0 lf_RX11_59 dX11_send_43 fv_11_8) ?_
  refine E.m (h.bipush (v := (31 : Int32)) dX11_send_46 (by decide)) ?_
  refine E.m (h.ialdk (k := 31) (hW.clo 47 h0 rfl) (by decide) rfl dX11_send_48) ?_
  refine E.m (h.iastk (k := 3) (hW.clo 49 h0 rfl) (by decide) rfl dX11_send_49) ?_
  refine E.nmM (fun M4 => ?_)
  refine E.m (h.aload_n 0 dX11_send_50 rfl) ?_
  refine E.m (h.get h0 lf_RX11_44 dX11_send_51 fv_11_3) ?_
  refine E.m (h.bipush (v := (8 : Int32)) dX11_send_54 (by decide)) ?_
  refine E.m (h.ialdk (k := 8) (hW.clo 42 h0 rfl) (by decide) rfl dX11_send_56) ?_
  refine E.join2 (fun z5 M6 => w M6 75 [(0, .ref t)] [.int z5]) (fun z5 M6 => ?_) (fun J75 hJ75 => ?_)
  · refine E.m (h.istore_n dX11_send_75 (by decide) rfl) ?_
    refine E.m (h.aload_n 1 dX11_send_76 rfl) ?_
    refine E.bnd (fun u7 M8 => w M8 80 [(1, .int z5), (0, .ref t)] [.int u7]) (fun u7 M8 hf k => h.callV (As := []) (rest := []) (c_X11_isLost hW h0 hf) lm_X11_isLost lv_m_X11_isLost ll_RX11_311 h0 lc_11 rfl rfl (Nat.le_of_ble_eq_true rfl) (by decide) dX11_send_77 rfl k) (fun u7 M8 => ?_)
    refine E.join1 (fun M9 => w M9 174 [(0, .ref t), (1, .int z5)] []) (fun M9 => ?_) (fun J174 hJ174 => ?_)
    · refine E.m (h.aload_n 0 dX11_send_174 rfl) ?_
      refine E.m (h.get h0 lf_RX11_59 dX11_send_175 fv_11_8) ?_
      refine E.m (h.bipush (v := (24 : Int32)) dX11_send_178 (by decide)) ?_
      refine E.m (h.iload_n 1 dX11_send_180 rfl) ?_
      refine E.m (h.iastk (k := 24) (hW.clo 47 h0 rfl) (by decide) rfl dX11_send_181) ?_
      refine E.nmM (fun M10 => ?_)
      refine E.m (h.aload_n 0 dX11_send_182 rfl) ?_
      refine E.m (h.get h0 lf_RX11_59 dX11_send_183 fv_11_8) ?_
      refine E.m (h.iconst (v := (2 : Int32)) dX11_send_186 (by decide)) ?_
      refine E.m (h.dup2 dX11_send_187 rfl rfl) ?_
      refine E.m (h.ialdk (k := 2) (hW.clo 47 h0 rfl) (by decide) rfl dX11_send_188) ?_
      refine E.m (h.iconst (v := (1 : Int32)) dX11_send_189 (by decide)) ?_
      refine E.m (h.iadd dX11_send_190) ?_
      refine E.m (h.iastk (k := 2) (hW.clo 47 h0 rfl) (by decide) rfl dX11_send_191) ?_
      refine E.nmM (fun M11 => ?_)
      exact E.some (ret_v hr dX11_send_192)
    refine E.br (fun k1 k2 => h.if_eq (tgt := 96) dX11_send_80 (by decide) k1 k2) ?_ ?_
    · refine E.m (h.bipush (v := (33 : Int32)) dX11_send_96 (by decide)) ?_
      refine E.m (h.iconst (v := (3 : Int32)) dX11_send_98 (by decide)) ?_
      refine E.m (h.aload_n 1 dX11_send_99 rfl) ?_
      refine E.m (h.get h0 lf_RX11_59 dX11_send_100 fv_11_8) ?_
      refine E.m (h.bipush (v := (31 : Int32)) dX11_send_103 (by decide)) ?_
      refine E.m (h.ialdk (k := 31) (hW.clo 47 h0 rfl) (by decide) rfl dX11_send_105) ?_
      refine E.m (h.imul dX11_send_106) ?_
      refine E.m (h.iadd dX11_send_107) ?_
      refine E.m (h.istore_n dX11_send_108 (by decide) rfl) ?_
      refine E.nmL (fun y12 => ?_)
      refine E.m (h.aload_n 2 dX11_send_109 rfl) ?_
      refine E.m (h.get h0 lf_RX11_59 dX11_send_110 fv_11_8) ?_
      refine E.m (h.iload_n 0 dX11_send_113 rfl) ?_
      refine E.m (h.aload_n 2 dX11_send_114 rfl) ?_
      refine E.m (h.get h0 lf_RX11_59 dX11_send_115 fv_11_8) ?_
      refine E.m (h.iconst (v := (2 : Int32)) dX11_send_118 (by decide)) ?_
      refine E.m (h.ialdk (k := 2) (hW.clo 47 h0 rfl) (by decide) rfl dX11_send_119) ?_
      refine E.gi (fun hi k => h.iast (hW.clo 47 h0 rfl) hi dX11_send_120 k) ?_
      refine E.nmM (fun M13 => ?_)
      refine E.m (h.aload_n 2 dX11_send_121 rfl) ?_
      refine E.m (h.get h0 lf_RX11_59 dX11_send_122 fv_11_8) ?_
      refine E.m (h.iload_n 0 dX11_send_125 rfl) ?_
      refine E.m (h.iconst (v := (1 : Int32)) dX11_send_126 (by decide)) ?_
      refine E.m (h.iadd dX11_send_127) ?_
      refine E.m (h.aload_n 2 dX11_send_128 rfl) ?_
      refine E.m (h.get h0 lf_RX11_59 dX11_send_129 fv_11_8) ?_
      refine E.m (h.iconst (v := (0 : Int32)) dX11_send_132 (by decide)) ?_
      refine E.m (h.ialdk (k := 0) (hW.clo 47 h0 rfl) (by decide) rfl dX11_send_133) ?_
      refine E.m (h.iload_n 1 dX11_send_134 rfl) ?_
      refine E.m (h.iadd dX11_send_135) ?_
      refine E.m (h.aload_n 2 dX11_send_136 rfl) ?_
      refine E.m (h.get h0 lf_RX11_59 dX11_send_137 fv_11_8) ?_
      refine E.m (h.bipush (v := (26 : Int32)) dX11_send_140 (by decide)) ?_
      refine E.m (h.ialdk (k := 26) (hW.clo 47 h0 rfl) (by decide) rfl dX11_send_142) ?_
      refine E.m (h.iadd dX11_send_143) ?_
      refine E.gi (fun hi k => h.iast (hW.clo 47 h0 rfl) hi dX11_send_144 k) ?_
      refine E.nmM (fun M14 => ?_)
      refine E.m (h.aload_n 2 dX11_send_145 rfl) ?_
      refine E.m (h.get h0 lf_RX11_59 dX11_send_146 fv_11_8) ?_
      refine E.m (h.iload_n 0 dX11_send_149 rfl) ?_
      refine E.m (h.iconst (v := (2 : Int32)) dX11_send_150 (by decide)) ?_
      refine E.m (h.iadd dX11_send_151) ?_
      refine E.m (h.aload_n 2 dX11_send_152 rfl) ?_
      refine E.m (h.get h0 lf_RX11_59 dX11_send_153 fv_11_8) ?_
      refine E.m (h.iconst (v := (0 : Int32)) dX11_send_156 (by decide)) ?_
      refine E.m (h.ialdk (k := 0) (hW.clo 47 h0 rfl) (by decide) rfl dX11_send_157) ?_
      refine E.m (h.sipush (v := (255 : Int32)) dX11_send_158 (by decide)) ?_
      refine E.m (h.iand dX11_send_161) ?_
      refine E.gi (fun hi k => h.iast (hW.clo 47 h0 rfl) hi dX11_send_162 k) ?_
      refine E.nmM (fun M15 => ?_)
      refine E.m (h.aload_n 2 dX11_send_163 rfl) ?_
      refine E.m (h.get h0 lf_RX11_59 dX11_send_164 fv_11_8) ?_
      refine E.m (h.bipush (v := (31 : Int32)) dX11_send_167 (by decide)) ?_
      refine E.m (h.dup2 dX11_send_169 rfl rfl) ?_
      refine E.m (h.ialdk (k := 31) (hW.clo 47 h0 rfl) (by decide) rfl dX11_send_170) ?_
      refine E.m (h.iconst (v := (1 : Int32)) dX11_send_171 (by decide)) ?_
      refine E.m (h.iadd dX11_send_172) ?_
      refine E.m (h.iastk (k := 31) (hW.clo 47 h0 rfl) (by decide) rfl dX11_send_173) ?_
      refine E.nmM (fun M16 => ?_)
      refine E.m (h.sub [2, 1] rfl) ?_
      exact hJ174 _
    · refine E.m (h.aload_n 1 dX11_send_83 rfl) ?_
      refine E.m (h.get h0 lf_RX11_59 dX11_send_84 fv_11_8) ?_
      refine E.m (h.iconst (v := (3 : Int32)) dX11_send_87 (by decide)) ?_
      refine E.m (h.dup2 dX11_send_88 rfl rfl) ?_
      refine E.m (h.ialdk (k := 3) (hW.clo 47 h0 rfl) (by decide) rfl dX11_send_89) ?_
      refine E.m (h.iconst (v := (1 : Int32)) dX11_send_90 (by decide)) ?_
      refine E.m (h.iadd dX11_send_91) ?_
      refine E.m (h.iastk (k := 3) (hW.clo 47 h0 rfl) (by decide) rfl dX11_send_92) ?_
      refine E.nmM (fun M17 => ?_)
      refine E.m (h.goto (tgt := 174) dX11_send_93 (by decide)) ?_
      refine E.m (h.sub [1, 0] rfl) ?_
      exact hJ174 _
  refine E.br (fun k1 k2 => h.if_ne (tgt := 64) dX11_send_57 (by decide) k2 k1) ?_ ?_
  · refine E.m (h.iconst (v := (3 : Int32)) dX11_send_60 (by decide)) ?_
    refine E.m (h.goto (tgt := 75) dX11_send_61 (by decide)) ?_
    exact hJ75 _ _
  · refine E.m (h.aload_n 0 dX11_send_64 rfl) ?_
    refine E.m (h.iconst (v := (0 : Int32)) dX11_send_65 (by decide)) ?_
    refine E.bnd (fun u18 M19 => w M19 69 [(0, .ref t)] [.int u18]) (fun u18 M19 hf k => h.callV (As := [.int (0 : Int32)]) (rest := []) (c_X11_ruleNow hW h0 hf) lm_X11_ruleNow lv_m_X11_ruleNow ll_RX11_304 h0 lc_11 rfl rfl (Nat.le_of_ble_eq_true rfl) (by decide) dX11_send_66 rfl k) (fun u18 M19 => ?_)
    refine E.m (h.iconst (v := (0 : Int32)) dX11_send_69 (by decide)) ?_
    refine E.m (h.bipush (v := (60 : Int32)) dX11_send_70 (by decide)) ?_
    refine E.bnd (fun u20 M21 => w M21 75 [(0, .ref t)] [.int u20]) (fun u20 M21 hf k => h.callS (As := [.int u18, .int (0 : Int32), .int (60 : Int32)]) (rest := []) (c_X11_within hW hf) lm_X11_within ls_m_X11_within ll_RX11_308 rfl rfl (Nat.le_of_ble_eq_true rfl) (by decide) dX11_send_72 rfl k) (fun u20 M21 => ?_)
    exact hJ75 _ _
def l_X11_makeOctets_21 (t : Nat) (M2 : Mem) : Option ((Mem) ⊕ (Unit × Mem)) :=
  if (M2.1 (t + 8) 22) < (1000 : Int32) then (some (.inr ((), M2))) else (nm (wi M2 (t + 8) 22 ((M2.1 (t + 8) 22) - (1000 : Int32))) (fun M3 => nm (wi M3 (t + 8) 1 ((M3.1 (t + 8) 1) + (1 : Int32))) (fun M4 => gdp (¬ (M4.1 (t + 3) 0) = 0) (if ((M4.1 (t + 8) 1) - (M4.1 (t + 8) 1) / (M4.1 (t + 3) 0) * (M4.1 (t + 3) 0)) = 0 then (bd (f_X11_send t M4) (fun _ M6 => some (.inl M6))) else (some (.inl M4))))))
def f_X11_makeOctets (t : Nat) (M : Mem) : Option (Unit × Mem) :=
  nm (wi M (t + 8) 22 ((M.1 (t + 8) 22) + ((1000 : Int32) + (M.1 (t + 8) 27)))) (fun M1 => lop1 FU (l_X11_makeOctets_21 t) M1)
set_option maxRecDepth 20000 in
theorem c_X11_makeOctets {G : Ctx} (hW : WFG G) {t : Nat} {M M' : Mem} (h0 : hs G t (0, 11)) (hf : f_X11_makeOctets t M = some ((), M')) : Ct G yX11_makeOctets cX11_makeOctets 1 none 5 113 [.ref t] M none M' := by
  refine ct_v hW (by decide +kernel) (Nat.le_of_ble_eq_true rfl) (fun w h hr => ?_)
  have h : Rb G cX11_makeOctets RX11 1 5 113 w := h
  refine (?_ : E (fun q => q = ((), M')) (f_X11_makeOctets t M) (w M 0 [(0, .ref t)] [])) _ hf rfl
  unfold f_X11_makeOctets
  refine E.m (h.aload_n 0 dX11_makeOctets_0 rfl) ?_
  refine E.m (h.get h0 lf_RX11_59 dX11_makeOctets_1 fv_11_8) ?_
  refine E.m (h.bipush (v := (22 : Int32)) dX11_makeOctets_4 (by decide)) ?_
  refine E.m (h.dup2 dX11_makeOctets_6 rfl rfl) ?_
  refine E.m (h.ialdk (k := 22) (hW.clo 47 h0 rfl) (by decide) rfl dX11_makeOctets_7) ?_
  refine E.m (h.sipush (v := (1000 : Int32)) dX11_makeOctets_8 (by decide)) ?_
  refine E.m (h.aload_n 0 dX11_makeOctets_11 rfl) ?_
  refine E.m (h.get h0 lf_RX11_59 dX11_makeOctets_12 fv_11_8) ?_
  refine E.m (h.bipush (v := (27 : Int32)) dX11_makeOctets_15 (by decide)) ?_
  refine E.m (h.ialdk (k := 27) (hW.clo 47 h0 rfl) (by decide) rfl dX11_makeOctets_17) ?_
  refine E.m (h.iadd dX11_makeOctets_18) ?_
  refine E.m (h.iadd dX11_makeOctets_19) ?_
  refine E.m (h.iastk (k := 22) (hW.clo 47 h0 rfl) (by decide) rfl dX11_makeOctets_20) ?_
  refine E.nmM (fun M1 => ?_)
  refine E.loop1 (fun M2 => w M2 21 [(0, .ref t)] []) (fun M2 => ?_) _ _
  unfold l_X11_makeOctets_21
  refine E.m (h.aload_n 0 dX11_makeOctets_21 rfl) ?_
  refine E.m (h.get h0 lf_RX11_59 dX11_makeOctets_22 fv_11_8) ?_
  refine E.m (h.bipush (v := (22 : Int32)) dX11_makeOctets_25 (by decide)) ?_
  refine E.m (h.ialdk (k := 22) (hW.clo 47 h0 rfl) (by decide) rfl dX11_makeOctets_27) ?_
  refine E.m (h.sipush (v := (1000 : Int32)) dX11_makeOctets_28 (by decide)) ?_
  refine E.br (fun k1 k2 => h.icmp_lt (tgt := 80) dX11_makeOctets_31 (by decide) k1 k2) ?_ ?_
  · exact E.some (ret_v hr dX11_makeOctets_80)
  · refine E.m (h.aload_n 0 dX11_makeOctets_34 rfl) ?_
    refine E.m (h.get h0 lf_RX11_59 dX11_makeOctets_35 fv_11_8) ?_
    refine E.m (h.bipush (v := (22 : Int32)) dX11_makeOctets_38 (by decide)) ?_
    refine E.m (h.dup2 dX11_makeOctets_40 rfl rfl) ?_
    refine E.m (h.ialdk (k := 22) (hW.clo 47 h0 rfl) (by decide) rfl dX11_makeOctets_41) ?_
    refine E.m (h.sipush (v := (1000 : Int32)) dX11_makeOctets_42 (by decide)) ?_
    refine E.m (h.isub dX11_makeOctets_45) ?_
    refine E.m (h.iastk (k := 22) (hW.clo 47 h0 rfl) (by decide) rfl dX11_makeOctets_46) ?_
    refine E.nmM (fun M3 => ?_)
    refine E.m (h.aload_n 0 dX11_makeOctets_47 rfl) ?_
    refine E.m (h.get h0 lf_RX11_59 dX11_makeOctets_48 fv_11_8) ?_
    refine E.m (h.iconst (v := (1 : Int32)) dX11_makeOctets_51 (by decide)) ?_
    refine E.m (h.dup2 dX11_makeOctets_52 rfl rfl) ?_
    refine E.m (h.ialdk (k := 1) (hW.clo 47 h0 rfl) (by decide) rfl dX11_makeOctets_53) ?_
    refine E.m (h.iconst (v := (1 : Int32)) dX11_makeOctets_54 (by decide)) ?_
    refine E.m (h.iadd dX11_makeOctets_55) ?_
    refine E.m (h.iastk (k := 1) (hW.clo 47 h0 rfl) (by decide) rfl dX11_makeOctets_56) ?_
    refine E.nmM (fun M4 => ?_)
    refine E.m (h.aload_n 0 dX11_makeOctets_57 rfl) ?_
    refine E.m (h.get h0 lf_RX11_59 dX11_makeOctets_58 fv_11_8) ?_
    refine E.m (h.iconst (v := (1 : Int32)) dX11_makeOctets_61 (by decide)) ?_
    refine E.m (h.ialdk (k := 1) (hW.clo 47 h0 rfl) (by decide) rfl dX11_makeOctets_62) ?_
    refine E.m (h.aload_n 0 dX11_makeOctets_63 rfl) ?_
    refine E.m (h.get h0 lf_RX11_44 dX11_makeOctets_64 fv_11_3) ?_
    refine E.m (h.iconst (v := (0 : Int32)) dX11_makeOctets_67 (by decide)) ?_
    refine E.m (h.ialdk (k := 0) (hW.clo 42 h0 rfl) (by decide) rfl dX11_makeOctets_68) ?_
    refine E.gd (fun hc k => h.irem hc dX11_makeOctets_69 k) (fun _ => ?_)
    refine E.br (fun k1 k2 => h.if_ne (tgt := 21) dX11_makeOctets_70 (by decide) k2 k1) ?_ ?_
    · refine E.m (h.aload_n 0 dX11_makeOctets_73 rfl) ?_
      refine E.bnd (fun _ M6 => w M6 77 [(0, .ref t)] []) (fun _ M6 hf k => h.callV (As := []) (rest := []) (c_X11_send hW h0 hf) lm_X11_send lv_m_X11_send ll_RX11_315 h0 lc_11 rfl rfl (Nat.le_of_ble_eq_true rfl) (by decide) dX11_makeOctets_74 rfl k) (fun _ M6 => ?_)
      refine E.m (h.goto (tgt := 21) dX11_makeOctets_77 (by decide)) ?_
      exact E.some (fun q => q)
    · exact E.some (fun q => q)
def f_X11_spotNow (t : Nat) (M : Mem) : Option (Int32 × Mem) :=
  gdp (¬ (M.1 (t + 3) 0) = 0) (some ((M.1 (t + 8) 14) / (M.1 (t + 3) 0), M))
set_option maxRecDepth 20000 in
theorem c_X11_spotNow {G : Ctx} (hW : WFG G) {t : Nat} {M M' : Mem} {r : Int32} (h0 : hs G t (0, 11)) (hf : f_X11_spotNow t M = some (r, M')) : Ct G yX11_spotNow cX11_spotNow 1 (some .int) 0 0 [.ref t] M (some (.int r)) M' := by
  refine ct_i hW (by decide +kernel) (Nat.le_of_ble_eq_true rfl) (fun w h hr => ?_)
  have h : Rb G cX11_spotNow RX11 1 0 0 w := h
  refine (?_ : E (fun q => q = (r, M')) (f_X11_spotNow t M) (w M 0 [(0, .ref t)] [])) _ hf rfl
  unfold f_X11_spotNow
  refine E.m (h.aload_n 0 dX11_spotNow_0 rfl) ?_
  refine E.m (h.get h0 lf_RX11_59 dX11_spotNow_1 fv_11_8) ?_
  refine E.m (h.bipush (v := (14 : Int32)) dX11_spotNow_4 (by decide)) ?_
  refine E.m (h.ialdk (k := 14) (hW.clo 47 h0 rfl) (by decide) rfl dX11_spotNow_6) ?_
  refine E.m (h.aload_n 0 dX11_spotNow_7 rfl) ?_
  refine E.m (h.get h0 lf_RX11_44 dX11_spotNow_8 fv_11_3) ?_
  refine E.m (h.iconst (v := (0 : Int32)) dX11_spotNow_11 (by decide)) ?_
  refine E.m (h.ialdk (k := 0) (hW.clo 42 h0 rfl) (by decide) rfl dX11_spotNow_12) ?_
  refine E.gd (fun hc k => h.idiv hc dX11_spotNow_13 k) (fun _ => ?_)
  exact E.some (ret_i hr rfl dX11_spotNow_14)
def f_X11_come (t : Nat) (x1_ : Int32) (x2_ : Int32) (M : Mem) : Option (Unit × Mem) :=
  nm (x1_ - x1_ / (64 : Int32) * (64 : Int32)) (fun y1 => jn1 (fun M2 => bd (f_X11_spotNow t M2) (fun u3 M4 => nm (((y1 - (u3 - u3 / (64 : Int32) * (64 : Int32))) + (64 : Int32)) - ((y1 - (u3 - u3 / (64 : Int32) * (64 : Int32))) + (64 : Int32)) / (64 : Int32) * (64 : Int32)) (fun y5 => if y5 < (32 : Int32) then (if y5 < (16 : Int32) then (bd (f_X11_spotNow t M4) (fun u6 M7 => nm (u6 + y5) (fun y8 => gdi ((153 : Int32) + y1) 665 (nm (wi M7 (t + 8) ((153 : Int32) + y1).toNatClampNeg x1_) (fun M9 => gdi ((217 : Int32) + y1) 665 (nm (wi M9 (t + 8) ((217 : Int32) + y1).toNatClampNeg y8) (fun M10 => if (M10.1 (t + 8) 18) < y8 then (nm (wi M10 (t + 8) 21 (y8 - (M10.1 (t + 8) 17))) (fun M11 => nm (wi M11 (t + 8) 20 ((M11.1 (t + 8) 20) + ((x2_ - (M11.1 (t + 8) 19)) &&& (255 : Int32)))) (fun M12 => nm (wi M12 (t + 8) 18 y8) (fun M13 => nm (wi M13 (t + 8) 19 x2_) (fun M14 => some ((), M14)))))) else (some ((), M10))))))))) else (nm (wi M4 (t + 8) 5 ((M4.1 (t + 8) 5) + (1 : Int32))) (fun M15 => some ((), M15)))) else (nm (wi M4 (t + 8) 4 ((M4.1 (t + 8) 4) + (1 : Int32))) (fun M16 => some ((), M16)))))) (fun J100 => if (M.1 (t + 8) 8) = 0 then (nm (wi M (t + 8) 14 ((M.1 (t + 3) 0) * y1)) (fun M17 => nm (wi M17 (t + 8) 8 (1 : Int32)) (fun M18 => nm (wi M18 (t + 8) 16 x1_) (fun M19 => nm (wi M19 (t + 8) 15 (M19.1 (t + 8) 14)) (fun M20 => nm (wi M20 (t + 8) 17 y1) (fun M21 => nm (wi M21 (t + 8) 18 y1) (fun M22 => nm (wi M22 (t + 8) 19 x2_) (fun M23 => nm (wi M23 (t + 8) 20 (0 : Int32)) (fun M24 => nm (wi M24 (t + 8) 21 (0 : Int32)) (fun M25 => J100 M25)))))))))) else (J100 M)))
set_option maxRecDepth 20000 in
theorem c_X11_come {G : Ctx} (hW : WFG G) {t : Nat} {x1_ : Int32} {x2_ : Int32} {M M' : Mem} (h0 : hs G t (0, 11)) (hf : f_X11_come t x1_ x2_ M = some ((), M')) : Ct G yX11_come cX11_come 6 none 1 20 [.ref t, .int x1_, .int x2_] M none M' := by
  refine ct_v hW (by decide +kernel) (Nat.le_of_ble_eq_true rfl) (fun w h hr => ?_)
  have h : Rb G cX11_come RX11 6 1 20 w := h
  refine (?_ : E (fun q => q = ((), M')) (f_X11_come t x1_ x2_ M) (w M 0 [(0, .ref t), (1, .int x1_), (2, .int x2_)] [])) _ hf rfl
  unfold f_X11_come
  refine E.m (h.iload_n 1 dX11_come_0 rfl) ?_
  refine E.m (h.bipush (v := (64 : Int32)) dX11_come_1 (by decide)) ?_
  refine E.m (h.irem (by decide) dX11_come_3) ?_
  refine E.m (h.istore_n dX11_come_4 (by decide) rfl) ?_
  refine E.nmL (fun y1 => ?_)
  refine E.m (h.aload_n 1 dX11_come_5 rfl) ?_
  refine E.m (h.get h0 lf_RX11_59 dX11_come_6 fv_11_8) ?_
  refine E.m (h.bipush (v := (8 : Int32)) dX11_come_9 (by decide)) ?_
  refine E.m (h.ialdk (k := 8) (hW.clo 47 h0 rfl) (by decide) rfl dX11_come_11) ?_
  refine E.join1 (fun M2 => w M2 100 [(0, .ref t), (1, .int x1_), (2, .int x2_), (3, .int y1)] []) (fun M2 => ?_) (fun J100 hJ100 => ?_)
  · refine E.m (h.iload_n 3 dX11_come_100 rfl) ?_
    refine E.m (h.aload_n 0 dX11_come_101 rfl) ?_
    refine E.bnd (fun u3 M4 => w M4 105 [(0, .ref t), (1, .int x1_), (2, .int x2_), (3, .int y1)] [.int u3, .int y1]) (fun u3 M4 hf k => h.callV (As := []) (rest := [.int y1]) (c_X11_spotNow hW h0 hf) lm_X11_spotNow lv_m_X11_spotNow ll_RX11_318 h0 lc_11 rfl rfl (Nat.le_of_ble_eq_true rfl) (by decide) dX11_come_102 rfl k) (fun u3 M4 => ?_)
    refine E.m (h.bipush (v := (64 : Int32)) dX11_come_105 (by decide)) ?_
    refine E.m (h.irem (by decide) dX11_come_107) ?_
    refine E.m (h.isub dX11_come_108) ?_
    refine E.m (h.bipush (v := (64 : Int32)) dX11_come_109 (by decide)) ?_
    refine E.m (h.iadd dX11_come_111) ?_
    refine E.m (h.bipush (v := (64 : Int32)) dX11_come_112 (by decide)) ?_
    refine E.m (h.irem (by decide) dX11_come_114) ?_
    refine E.m (h.istore dX11_come_115 (by decide) rfl) ?_
    refine E.nmL (fun y5 => ?_)
    refine E.m (h.iload 0 dX11_come_117 rfl) ?_
    refine E.m (h.bipush (v := (32 : Int32)) dX11_come_119 (by decide)) ?_
    refine E.br (fun k1 k2 => h.icmp_lt (tgt := 135) dX11_come_121 (by decide) k1 k2) ?_ ?_
    · refine E.m (h.iload 0 dX11_come_135 rfl) ?_
      refine E.m (h.bipush (v := (16 : Int32)) dX11_come_137 (by decide)) ?_
      refine E.br (fun k1 k2 => h.icmp_lt (tgt := 153) dX11_come_139 (by decide) k1 k2) ?_ ?_
      · refine E.m (h.aload_n 1 dX11_come_153 rfl) ?_
        refine E.bnd (fun u6 M7 => w M7 157 [(4, .int y5), (0, .ref t), (1, .int x1_), (2, .int x2_), (3, .int y1)] [.int u6]) (fun u6 M7 hf k => h.callV (As := []) (rest := []) (c_X11_spotNow hW h0 hf) lm_X11_spotNow lv_m_X11_spotNow ll_RX11_318 h0 lc_11 rfl rfl (Nat.le_of_ble_eq_true rfl) (by decide) dX11_come_154 rfl k) (fun u6 M7 => ?_)
        refine E.m (h.iload 0 dX11_come_157 rfl) ?_
        refine E.m (h.iadd dX11_come_159) ?_
        refine E.m (h.istore dX11_come_160 (by decide) rfl) ?_
        refine E.nmL (fun y8 => ?_)
        refine E.m (h.aload_n 2 dX11_come_162 rfl) ?_
        refine E.m (h.get h0 lf_RX11_59 dX11_come_163 fv_11_8) ?_
        refine E.m (h.sipush (v := (153 : Int32)) dX11_come_166 (by decide)) ?_
        refine E.m (h.iload_n 5 dX11_come_169 rfl) ?_
        refine E.m (h.iadd dX11_come_170) ?_
        refine E.m (h.iload_n 3 dX11_come_171 rfl) ?_
        refine E.gi (fun hi k => h.iast (hW.clo 47 h0 rfl) hi dX11_come_172 k) ?_
        refine E.nmM (fun M9 => ?_)
        refine E.m (h.aload_n 2 dX11_come_173 rfl) ?_
        refine E.m (h.get h0 lf_RX11_59 dX11_come_174 fv_11_8) ?_
        refine E.m (h.sipush (v := (217 : Int32)) dX11_come_177 (by decide)) ?_
        refine E.m (h.iload_n 5 dX11_come_180 rfl) ?_
        refine E.m (h.iadd dX11_come_181) ?_
        refine E.m (h.iload 0 dX11_come_182 rfl) ?_
        refine E.gi (fun hi k => h.iast (hW.clo 47 h0 rfl) hi dX11_come_184 k) ?_
        refine E.nmM (fun M10 => ?_)
        refine E.m (h.iload 0 dX11_come_185 rfl) ?_
        refine E.m (h.aload_n 2 dX11_come_187 rfl) ?_
        refine E.m (h.get h0 lf_RX11_59 dX11_come_188 fv_11_8) ?_
        refine E.m (h.bipush (v := (18 : Int32)) dX11_come_191 (by decide)) ?_
        refine E.m (h.ialdk (k := 18) (hW.clo 47 h0 rfl) (by decide) rfl dX11_come_193) ?_
        refine E.br (fun k1 k2 => h.icmp_gt (tgt := 198) dX11_come_194 (by decide) k1 k2) ?_ ?_
        · refine E.m (h.aload_n 2 dX11_come_198 rfl) ?_
          refine E.m (h.get h0 lf_RX11_59 dX11_come_199 fv_11_8) ?_
          refine E.m (h.bipush (v := (21 : Int32)) dX11_come_202 (by decide)) ?_
          refine E.m (h.iload 0 dX11_come_204 rfl) ?_
          refine E.m (h.aload_n 2 dX11_come_206 rfl) ?_
          refine E.m (h.get h0 lf_RX11_59 dX11_come_207 fv_11_8) ?_
          refine E.m (h.bipush (v := (17 : Int32)) dX11_come_210 (by decide)) ?_
          refine E.m (h.ialdk (k := 17) (hW.clo 47 h0 rfl) (by decide) rfl dX11_come_212) ?_
          refine E.m (h.isub dX11_come_213) ?_
          refine E.m (h.iastk (k := 21) (hW.clo 47 h0 rfl) (by decide) rfl dX11_come_214) ?_
          refine E.nmM (fun M11 => ?_)
          refine E.m (h.aload_n 2 dX11_come_215 rfl) ?_
          refine E.m (h.get h0 lf_RX11_59 dX11_come_216 fv_11_8) ?_
          refine E.m (h.bipush (v := (20 : Int32)) dX11_come_219 (by decide)) ?_
          refine E.m (h.dup2 dX11_come_221 rfl rfl) ?_
          refine E.m (h.ialdk (k := 20) (hW.clo 47 h0 rfl) (by decide) rfl dX11_come_222) ?_
          refine E.m (h.iload_n 4 dX11_come_223 rfl) ?_
          refine E.m (h.aload_n 2 dX11_come_224 rfl) ?_
          refine E.m (h.get h0 lf_RX11_59 dX11_come_225 fv_11_8) ?_
          refine E.m (h.bipush (v := (19 : Int32)) dX11_come_228 (by decide)) ?_
          refine E.m (h.ialdk (k := 19) (hW.clo 47 h0 rfl) (by decide) rfl dX11_come_230) ?_
          refine E.m (h.isub dX11_come_231) ?_
          refine E.m (h.sipush (v := (255 : Int32)) dX11_come_232 (by decide)) ?_
          refine E.m (h.iand dX11_come_235) ?_
          refine E.m (h.iadd dX11_come_236) ?_
          refine E.m (h.iastk (k := 20) (hW.clo 47 h0 rfl) (by decide) rfl dX11_come_237) ?_
          refine E.nmM (fun M12 => ?_)
          refine E.m (h.aload_n 2 dX11_come_238 rfl) ?_
          refine E.m (h.get h0 lf_RX11_59 dX11_come_239 fv_11_8) ?_
          refine E.m (h.bipush (v := (18 : Int32)) dX11_come_242 (by decide)) ?_
          refine E.m (h.iload 0 dX11_come_244 rfl) ?_
          refine E.m (h.iastk (k := 18) (hW.clo 47 h0 rfl) (by decide) rfl dX11_come_246) ?_
          refine E.nmM (fun M13 => ?_)
          refine E.m (h.aload_n 2 dX11_come_247 rfl) ?_
          refine E.m (h.get h0 lf_RX11_59 dX11_come_248 fv_11_8) ?_
          refine E.m (h.bipush (v := (19 : Int32)) dX11_come_251 (by decide)) ?_
          refine E.m (h.iload_n 4 dX11_come_253 rfl) ?_
          refine E.m (h.iastk (k := 19) (hW.clo 47 h0 rfl) (by decide) rfl dX11_come_254) ?_
          refine E.nmM (fun M14 => ?_)
          exact E.some (ret_v hr dX11_come_255)
        · exact E.some (ret_v hr dX11_come_197)
      · refine E.m (h.aload_n 1 dX11_come_142 rfl) ?_
        refine E.m (h.get h0 lf_RX11_59 dX11_come_143 fv_11_8) ?_
        refine E.m (h.iconst (v := (5 : Int32)) dX11_come_146 (by decide)) ?_
        refine E.m (h.dup2 dX11_come_147 rfl rfl) ?_
        refine E.m (h.ialdk (k := 5) (hW.clo 47 h0 rfl) (by decide) rfl dX11_come_148) ?_
        refine E.m (h.iconst (v := (1 : Int32)) dX11_come_149 (by decide)) ?_
        refine E.m (h.iadd dX11_come_150) ?_
        refine E.m (h.iastk (k := 5) (hW.clo 47 h0 rfl) (by decide) rfl dX11_come_151) ?_
        refine E.nmM (fun M15 => ?_)
        exact E.some (ret_v hr dX11_come_152)
    · refine E.m (h.aload_n 1 dX11_come_124 rfl) ?_
      refine E.m (h.get h0 lf_RX11_59 dX11_come_125 fv_11_8) ?_
      refine E.m (h.iconst (v := (4 : Int32)) dX11_come_128 (by decide)) ?_
      refine E.m (h.dup2 dX11_come_129 rfl rfl) ?_
      refine E.m (h.ialdk (k := 4) (hW.clo 47 h0 rfl) (by decide) rfl dX11_come_130) ?_
      refine E.m (h.iconst (v := (1 : Int32)) dX11_come_131 (by decide)) ?_
      refine E.m (h.iadd dX11_come_132) ?_
      refine E.m (h.iastk (k := 4) (hW.clo 47 h0 rfl) (by decide) rfl dX11_come_133) ?_
      refine E.nmM (fun M16 => ?_)
      exact E.some (ret_v hr dX11_come_134)
  refine E.br (fun k1 k2 => h.if_ne (tgt := 100) dX11_come_12 (by decide) k2 k1) ?_ ?_
  · refine E.m (h.aload_n 1 dX11_come_15 rfl) ?_
    refine E.m (h.get h0 lf_RX11_59 dX11_come_16 fv_11_8) ?_
    refine E.m (h.bipush (v := (14 : Int32)) dX11_come_19 (by decide)) ?_
    refine E.m (h.aload_n 1 dX11_come_21 rfl) ?_
    refine E.m (h.get h0 lf_RX11_44 dX11_come_22 fv_11_3) ?_
    refine E.m (h.iconst (v := (0 : Int32)) dX11_come_25 (by decide)) ?_
    refine E.m (h.ialdk (k := 0) (hW.clo 42 h0 rfl) (by decide) rfl dX11_come_26) ?_
    refine E.m (h.iload_n 0 dX11_come_27 rfl) ?_
    refine E.m (h.imul dX11_come_28) ?_
    refine E.m (h.iastk (k := 14) (hW.clo 47 h0 rfl) (by decide) rfl dX11_come_29) ?_
    refine E.nmM (fun M17 => ?_)
    refine E.m (h.aload_n 1 dX11_come_30 rfl) ?_
    refine E.m (h.get h0 lf_RX11_59 dX11_come_31 fv_11_8) ?_
    refine E.m (h.bipush (v := (8 : Int32)) dX11_come_34 (by decide)) ?_
    refine E.m (h.iconst (v := (1 : Int32)) dX11_come_36 (by decide)) ?_
    refine E.m (h.iastk (k := 8) (hW.clo 47 h0 rfl) (by decide) rfl dX11_come_37) ?_
    refine E.nmM (fun M18 => ?_)
    refine E.m (h.aload_n 1 dX11_come_38 rfl) ?_
    refine E.m (h.get h0 lf_RX11_59 dX11_come_39 fv_11_8) ?_
    refine E.m (h.bipush (v := (16 : Int32)) dX11_come_42 (by decide)) ?_
    refine E.m (h.iload_n 2 dX11_come_44 rfl) ?_
    refine E.m (h.iastk (k := 16) (hW.clo 47 h0 rfl) (by decide) rfl dX11_come_45) ?_
    refine E.nmM (fun M19 => ?_)
    refine E.m (h.aload_n 1 dX11_come_46 rfl) ?_
    refine E.m (h.get h0 lf_RX11_59 dX11_come_47 fv_11_8) ?_
    refine E.m (h.bipush (v := (15 : Int32)) dX11_come_50 (by decide)) ?_
    refine E.m (h.aload_n 1 dX11_come_52 rfl) ?_
    refine E.m (h.get h0 lf_RX11_59 dX11_come_53 fv_11_8) ?_
    refine E.m (h.bipush (v := (14 : Int32)) dX11_come_56 (by decide)) ?_
    refine E.m (h.ialdk (k := 14) (hW.clo 47 h0 rfl) (by decide) rfl dX11_come_58) ?_
    refine E.m (h.iastk (k := 15) (hW.clo 47 h0 rfl) (by decide) rfl dX11_come_59) ?_
    refine E.nmM (fun M20 => ?_)
    refine E.m (h.aload_n 1 dX11_come_60 rfl) ?_
    refine E.m (h.get h0 lf_RX11_59 dX11_come_61 fv_11_8) ?_
    refine E.m (h.bipush (v := (17 : Int32)) dX11_come_64 (by decide)) ?_
    refine E.m (h.iload_n 0 dX11_come_66 rfl) ?_
    refine E.m (h.iastk (k := 17) (hW.clo 47 h0 rfl) (by decide) rfl dX11_come_67) ?_
    refine E.nmM (fun M21 => ?_)
    refine E.m (h.aload_n 1 dX11_come_68 rfl) ?_
    refine E.m (h.get h0 lf_RX11_59 dX11_come_69 fv_11_8) ?_
    refine E.m (h.bipush (v := (18 : Int32)) dX11_come_72 (by decide)) ?_
    refine E.m (h.iload_n 0 dX11_come_74 rfl) ?_
    refine E.m (h.iastk (k := 18) (hW.clo 47 h0 rfl) (by decide) rfl dX11_come_75) ?_
    refine E.nmM (fun M22 => ?_)
    refine E.m (h.aload_n 1 dX11_come_76 rfl) ?_
    refine E.m (h.get h0 lf_RX11_59 dX11_come_77 fv_11_8) ?_
    refine E.m (h.bipush (v := (19 : Int32)) dX11_come_80 (by decide)) ?_
    refine E.m (h.iload_n 3 dX11_come_82 rfl) ?_
    refine E.m (h.iastk (k := 19) (hW.clo 47 h0 rfl) (by decide) rfl dX11_come_83) ?_
    refine E.nmM (fun M23 => ?_)
    refine E.m (h.aload_n 1 dX11_come_84 rfl) ?_
    refine E.m (h.get h0 lf_RX11_59 dX11_come_85 fv_11_8) ?_
    refine E.m (h.bipush (v := (20 : Int32)) dX11_come_88 (by decide)) ?_
    refine E.m (h.iconst (v := (0 : Int32)) dX11_come_90 (by decide)) ?_
    refine E.m (h.iastk (k := 20) (hW.clo 47 h0 rfl) (by decide) rfl dX11_come_91) ?_
    refine E.nmM (fun M24 => ?_)
    refine E.m (h.aload_n 1 dX11_come_92 rfl) ?_
    refine E.m (h.get h0 lf_RX11_59 dX11_come_93 fv_11_8) ?_
    refine E.m (h.bipush (v := (21 : Int32)) dX11_come_96 (by decide)) ?_
    refine E.m (h.iconst (v := (0 : Int32)) dX11_come_98 (by decide)) ?_
    refine E.m (h.iastk (k := 21) (hW.clo 47 h0 rfl) (by decide) rfl dX11_come_99) ?_
    refine E.nmM (fun M25 => ?_)
    refine E.m (h.sub [1, 2, 3, 0] rfl) ?_
    exact hJ100 _
  · refine E.m (h.sub [1, 2, 3, 0] rfl) ?_
    exact hJ100 _
def l_X11_receive_137 (t : Nat) (y1 : Int32) (k2 : Int32) (k6 : Int32) (M7 : Mem) : Option ((Int32 × Mem) ⊕ ((Int32 × Int32 × Mem) ⊕ (Unit × Mem))) :=
  if ((33 : Int32) + ((3 : Int32) * y1)) ≤ k6 then (nm (wi M7 (t + 8) 31 k2) (fun M8 => some (.inr (.inr ((), M8))))) else (gdi k6 665 (nm (wi M7 (t + 8) k6.toNatClampNeg (0 : Int32)) (fun M9 => nm (k6 + (1 : Int32)) (fun y10 => some (.inl (y10, M9))))))
def l_X11_receive_12 (t : Nat) (y1 : Int32) (k2 : Int32) (k3 : Int32) (M4 : Mem) : Option ((Int32 × Int32 × Mem) ⊕ (Unit × Mem)) :=
  if y1 ≤ k3 then (nm ((33 : Int32) + ((3 : Int32) * k2)) (fun y5 => lop2 FU (l_X11_receive_137 t y1 k2) y5 M4)) else (nm ((33 : Int32) + ((3 : Int32) * k3)) (fun y11 => gdi y11 665 (nm (M4.1 (t + 8) y11.toNatClampNeg) (fun y12 => gdi (y11 + (1 : Int32)) 665 (nm (M4.1 (t + 8) (y11 + (1 : Int32)).toNatClampNeg) (fun y13 => gdi (y11 + (2 : Int32)) 665 (nm (M4.1 (t + 8) (y11 + (2 : Int32)).toNatClampNeg) (fun y14 => jn2 (fun z15 M16 => nm (k3 + (1 : Int32)) (fun y17 => some (.inl (z15, y17, M16)))) (fun J124 => if (M4.1 (t + 8) 0) < y13 then (gdi ((33 : Int32) + ((3 : Int32) * k2)) 665 (nm (wi M4 (t + 8) ((33 : Int32) + ((3 : Int32) * k2)).toNatClampNeg y12) (fun M18 => gdi (((33 : Int32) + ((3 : Int32) * k2)) + (1 : Int32)) 665 (nm (wi M18 (t + 8) (((33 : Int32) + ((3 : Int32) * k2)) + (1 : Int32)).toNatClampNeg y13) (fun M19 => gdi (((33 : Int32) + ((3 : Int32) * k2)) + (2 : Int32)) 665 (nm (wi M19 (t + 8) (((33 : Int32) + ((3 : Int32) * k2)) + (2 : Int32)).toNatClampNeg y14) (fun M20 => nm (k2 + (1 : Int32)) (fun y21 => J124 y21 M20)))))))) else (bd (f_X11_come t y12 y14 M4) (fun _ M23 => J124 k2 M23)))))))))))
def f_X11_receive (t : Nat) (M : Mem) : Option (Unit × Mem) :=
  nm (M.1 (t + 8) 31) (fun y1 => lop3 FU (l_X11_receive_12 t y1) (0 : Int32) (0 : Int32) M)
set_option maxRecDepth 20000 in
theorem c_X11_receive {G : Ctx} (hW : WFG G) {t : Nat} {M M' : Mem} (h0 : hs G t (0, 11)) (hf : f_X11_receive t M = some ((), M')) : Ct G yX11_receive cX11_receive 8 none 2 45 [.ref t] M none M' := by
  refine ct_v hW (by decide +kernel) (Nat.le_of_ble_eq_true rfl) (fun w h hr => ?_)
  have h : Rb G cX11_receive RX11 8 2 45 w := h
  refine (?_ : E (fun q => q = ((), M')) (f_X11_receive t M) (w M 0 [(0, .ref t)] [])) _ hf rfl
  unfold f_X11_receive
  refine E.m (h.aload_n 0 dX11_receive_0 rfl) ?_
  refine E.m (h.get h0 lf_RX11_59 dX11_receive_1 fv_11_8) ?_
  refine E.m (h.bipush (v := (31 : Int32)) dX11_receive_4 (by decide)) ?_
  refine E.m (h.ialdk (k := 31) (hW.clo 47 h0 rfl) (by decide) rfl dX11_receive_6) ?_
  refine E.m (h.istore_n dX11_receive_7 (by decide) rfl) ?_
  refine E.nmL (fun y1 => ?_)
  refine E.m (h.iconst (v := (0 : Int32)) dX11_receive_8 (by decide)) ?_
  refine E.m (h.istore_n dX11_receive_9 (by decide) rfl) ?_
  refine E.m (h.iconst (v := (0 : Int32)) dX11_receive_10 (by decide)) ?_
  refine E.m (h.istore_n dX11_receive_11 (by decide) rfl) ?_
  refine E.m (h.sub [3, 2, 1, 0] rfl) ?_
  refine E.loop3 (fun k2 k3 M4 => w M4 12 [(0, .ref t), (1, .int y1), (2, .int k2), (3, .int k3)] []) (fun k2 k3 M4 => ?_) _ _ _ _
  unfold l_X11_receive_12
  refine E.m (h.iload_n 3 dX11_receive_12 rfl) ?_
  refine E.m (h.iload_n 1 dX11_receive_13 rfl) ?_
  refine E.br (fun k1 k2 => h.icmp_ge (tgt := 130) dX11_receive_14 (by decide) k1 k2) ?_ ?_
  · refine E.m (h.bipush (v := (33 : Int32)) dX11_receive_130 (by decide)) ?_
    refine E.m (h.iconst (v := (3 : Int32)) dX11_receive_132 (by decide)) ?_
    refine E.m (h.iload_n 2 dX11_receive_133 rfl) ?_
    refine E.m (h.imul dX11_receive_134) ?_
    refine E.m (h.iadd dX11_receive_135) ?_
    refine E.m (h.istore_n dX11_receive_136 (by decide) rfl) ?_
    refine E.nmL (fun y5 => ?_)
    refine E.m (h.sub [1, 2, 3, 0] rfl) ?_
    refine E.loop2 (fun k6 M7 => w M7 137 [(0, .ref t), (1, .int y1), (2, .int k2), (3, .int k6)] []) (fun k6 M7 => ?_) _ _ _
    unfold l_X11_receive_137
    refine E.m (h.iload_n 3 dX11_receive_137 rfl) ?_
    refine E.m (h.bipush (v := (33 : Int32)) dX11_receive_138 (by decide)) ?_
    refine E.m (h.iconst (v := (3 : Int32)) dX11_receive_140 (by decide)) ?_
    refine E.m (h.iload_n 1 dX11_receive_141 rfl) ?_
    refine E.m (h.imul dX11_receive_142) ?_
    refine E.m (h.iadd dX11_receive_143) ?_
    refine E.br (fun k1 k2 => h.icmp_ge (tgt := 160) dX11_receive_144 (by decide) k1 k2) ?_ ?_
    · refine E.m (h.aload_n 0 dX11_receive_160 rfl) ?_
      refine E.m (h.get h0 lf_RX11_59 dX11_receive_161 fv_11_8) ?_
      refine E.m (h.bipush (v := (31 : Int32)) dX11_receive_164 (by decide)) ?_
      refine E.m (h.iload_n 2 dX11_receive_166 rfl) ?_
      refine E.m (h.iastk (k := 31) (hW.clo 47 h0 rfl) (by decide) rfl dX11_receive_167) ?_
      refine E.nmM (fun M8 => ?_)
      exact E.some (ret_v hr dX11_receive_168)
    · refine E.m (h.aload_n 0 dX11_receive_147 rfl) ?_
      refine E.m (h.get h0 lf_RX11_59 dX11_receive_148 fv_11_8) ?_
      refine E.m (h.iload_n 3 dX11_receive_151 rfl) ?_
      refine E.m (h.iconst (v := (0 : Int32)) dX11_receive_152 (by decide)) ?_
      refine E.gi (fun hi k => h.iast (hW.clo 47 h0 rfl) hi dX11_receive_153 k) ?_
      refine E.nmM (fun M9 => ?_)
      refine E.m (h.iinc (v := (1 : Int32)) 3 dX11_receive_154 rfl (by decide) (by decide) rfl) ?_
      refine E.nmL (fun y10 => ?_)
      refine E.m (h.goto (tgt := 137) dX11_receive_157 (by decide)) ?_
      refine E.m (h.sub [1, 2, 3, 0] rfl) ?_
      exact E.some (fun q => q)
  · refine E.m (h.bipush (v := (33 : Int32)) dX11_receive_17 (by decide)) ?_
    refine E.m (h.iconst (v := (3 : Int32)) dX11_receive_19 (by decide)) ?_
    refine E.m (h.iload_n 3 dX11_receive_20 rfl) ?_
    refine E.m (h.imul dX11_receive_21) ?_
    refine E.m (h.iadd dX11_receive_22) ?_
    refine E.m (h.istore dX11_receive_23 (by decide) rfl) ?_
    refine E.nmL (fun y11 => ?_)
    refine E.m (h.aload_n 1 dX11_receive_25 rfl) ?_
    refine E.m (h.get h0 lf_RX11_59 dX11_receive_26 fv_11_8) ?_
    refine E.m (h.iload 0 dX11_receive_29 rfl) ?_
    refine E.gi (fun hi k => h.iald (hW.clo 47 h0 rfl) hi dX11_receive_31 k) ?_
    refine E.m (h.istore dX11_receive_32 (by decide) rfl) ?_
    refine E.nmL (fun y12 => ?_)
    refine E.m (h.aload_n 2 dX11_receive_34 rfl) ?_
    refine E.m (h.get h0 lf_RX11_59 dX11_receive_35 fv_11_8) ?_
    refine E.m (h.iload 1 dX11_receive_38 rfl) ?_
    refine E.m (h.iconst (v := (1 : Int32)) dX11_receive_40 (by decide)) ?_
    refine E.m (h.iadd dX11_receive_41) ?_
    refine E.gi (fun hi k => h.iald (hW.clo 47 h0 rfl) hi dX11_receive_42 k) ?_
    refine E.m (h.istore dX11_receive_43 (by decide) rfl) ?_
    refine E.nmL (fun y13 => ?_)
    refine E.m (h.aload_n 3 dX11_receive_45 rfl) ?_
    refine E.m (h.get h0 lf_RX11_59 dX11_receive_46 fv_11_8) ?_
    refine E.m (h.iload 2 dX11_receive_49 rfl) ?_
    refine E.m (h.iconst (v := (2 : Int32)) dX11_receive_51 (by decide)) ?_
    refine E.m (h.iadd dX11_receive_52) ?_
    refine E.gi (fun hi k => h.iald (hW.clo 47 h0 rfl) hi dX11_receive_53 k) ?_
    refine E.m (h.istore dX11_receive_54 (by decide) rfl) ?_
    refine E.nmL (fun y14 => ?_)
    refine E.m (h.iload 1 dX11_receive_56 rfl) ?_
    refine E.m (h.aload_n 4 dX11_receive_58 rfl) ?_
    refine E.m (h.get h0 lf_RX11_59 dX11_receive_59 fv_11_8) ?_
    refine E.m (h.iconst (v := (0 : Int32)) dX11_receive_62 (by decide)) ?_
    refine E.m (h.ialdk (k := 0) (hW.clo 47 h0 rfl) (by decide) rfl dX11_receive_63) ?_
    refine E.join2 (fun z15 M16 => w M16 124 [(0, .ref t), (1, .int y1), (2, .int z15), (3, .int k3), (4, .int y11), (5, .int y12), (6, .int y13), (7, .int y14)] []) (fun z15 M16 => ?_) (fun J124 hJ124 => ?_)
    · refine E.m (h.iinc (v := (1 : Int32)) 3 dX11_receive_124 rfl (by decide) (by decide) rfl) ?_
      refine E.nmL (fun y17 => ?_)
      refine E.m (h.goto (tgt := 12) dX11_receive_127 (by decide)) ?_
      refine E.m (h.sub [1, 2, 3, 0] rfl) ?_
      exact E.some (fun q => q)
    refine E.br (fun k1 k2 => h.icmp_gt (tgt := 78) dX11_receive_64 (by decide) k1 k2) ?_ ?_
    · refine E.m (h.aload_n 4 dX11_receive_78 rfl) ?_
      refine E.m (h.get h0 lf_RX11_59 dX11_receive_79 fv_11_8) ?_
      refine E.m (h.bipush (v := (33 : Int32)) dX11_receive_82 (by decide)) ?_
      refine E.m (h.iconst (v := (3 : Int32)) dX11_receive_84 (by decide)) ?_
      refine E.m (h.iload_n 6 dX11_receive_85 rfl) ?_
      refine E.m (h.imul dX11_receive_86) ?_
      refine E.m (h.iadd dX11_receive_87) ?_
      refine E.m (h.iload 2 dX11_receive_88 rfl) ?_
      refine E.gi (fun hi k => h.iast (hW.clo 47 h0 rfl) hi dX11_receive_90 k) ?_
      refine E.nmM (fun M18 => ?_)
      refine E.m (h.aload_n 4 dX11_receive_91 rfl) ?_
      refine E.m (h.get h0 lf_RX11_59 dX11_receive_92 fv_11_8) ?_
      refine E.m (h.bipush (v := (33 : Int32)) dX11_receive_95 (by decide)) ?_
      refine E.m (h.iconst (v := (3 : Int32)) dX11_receive_97 (by decide)) ?_
      refine E.m (h.iload_n 6 dX11_receive_98 rfl) ?_
      refine E.m (h.imul dX11_receive_99) ?_
      refine E.m (h.iadd dX11_receive_100) ?_
      refine E.m (h.iconst (v := (1 : Int32)) dX11_receive_101 (by decide)) ?_
      refine E.m (h.iadd dX11_receive_102) ?_
      refine E.m (h.iload 1 dX11_receive_103 rfl) ?_
      refine E.gi (fun hi k => h.iast (hW.clo 47 h0 rfl) hi dX11_receive_105 k) ?_
      refine E.nmM (fun M19 => ?_)
      refine E.m (h.aload_n 4 dX11_receive_106 rfl) ?_
      refine E.m (h.get h0 lf_RX11_59 dX11_receive_107 fv_11_8) ?_
      refine E.m (h.bipush (v := (33 : Int32)) dX11_receive_110 (by decide)) ?_
      refine E.m (h.iconst (v := (3 : Int32)) dX11_receive_112 (by decide)) ?_
      refine E.m (h.iload_n 6 dX11_receive_113 rfl) ?_
      refine E.m (h.imul dX11_receive_114) ?_
      refine E.m (h.iadd dX11_receive_115) ?_
      refine E.m (h.iconst (v := (2 : Int32)) dX11_receive_116 (by decide)) ?_
      refine E.m (h.iadd dX11_receive_117) ?_
      refine E.m (h.iload 0 dX11_receive_118 rfl) ?_
      refine E.gi (fun hi k => h.iast (hW.clo 47 h0 rfl) hi dX11_receive_120 k) ?_
      refine E.nmM (fun M20 => ?_)
      refine E.m (h.iinc (v := (1 : Int32)) 6 dX11_receive_121 rfl (by decide) (by decide) rfl) ?_
      refine E.nmL (fun y21 => ?_)
      refine E.m (h.sub [5, 6, 0, 7, 4, 3, 2, 1] rfl) ?_
      exact hJ124 _ _
    · refine E.m (h.aload_n 4 dX11_receive_67 rfl) ?_
      refine E.m (h.iload 2 dX11_receive_68 rfl) ?_
      refine E.m (h.iload 0 dX11_receive_70 rfl) ?_
      refine E.bnd (fun _ M23 => w M23 75 [(7, .int y14), (6, .int y13), (5, .int y12), (4, .int y11), (0, .ref t), (1, .int y1), (2, .int k2), (3, .int k3)] []) (fun _ M23 hf k => h.callV (As := [.int y12, .int y14]) (rest := []) (c_X11_come hW h0 hf) lm_X11_come lv_m_X11_come ll_RX11_321 h0 lc_11 rfl rfl (Nat.le_of_ble_eq_true rfl) (by decide) dX11_receive_72 rfl k) (fun _ M23 => ?_)
      refine E.m (h.goto (tgt := 124) dX11_receive_75 (by decide)) ?_
      refine E.m (h.sub [4, 5, 6, 7, 3, 2, 1, 0] rfl) ?_
      exact hJ124 _ _
def l_X11_levelNow_9 (t : Nat) (u1 : Int32) (k3 : Int32) (k4 : Int32) (M5 : Mem) : Option ((Int32 × Int32 × Mem) ⊕ (Int32 × Mem)) :=
  jn0 (fun _ => jn1 (fun z6 => some (.inr (z6, M5))) (fun J101 => if k3 = (-1 : Int32) then (J101 (0 : Int32)) else (J101 (((k3 + (1 : Int32)) * (M5.1 (t + 3) 0)) - (M5.1 (t + 8) 14))))) (fun J74 => if (64 : Int32) ≤ k4 then (J74 ()) else (if (M5.1 (t + 8) 8) = 0 then (J74 ()) else (gdi ((153 : Int32) + k4) 665 (jn2 (fun z7 M8 => nm (k4 + (1 : Int32)) (fun y9 => some (.inl (z7, y9, M8)))) (fun J68 => if (M5.1 (t + 8) ((153 : Int32) + k4).toNatClampNeg) = (-1 : Int32) then (J68 k3 M5) else (gdi ((217 : Int32) + k4) 665 (if (M5.1 (t + 8) ((217 : Int32) + k4).toNatClampNeg) < u1 then (J68 k3 M5) else (gdi ((217 : Int32) + k4) 665 (bd (f_J9_max_7cf53 k3 (M5.1 (t + 8) ((217 : Int32) + k4).toNatClampNeg) M5) (fun u10 M11 => J68 u10 M11))))))))))
def f_X11_levelNow (t : Nat) (M : Mem) : Option (Int32 × Mem) :=
  bd (f_X11_spotNow t M) (fun u1 M2 => lop3 FU (l_X11_levelNow_9 t u1) (-1 : Int32) (0 : Int32) M2)
set_option maxRecDepth 20000 in
theorem c_X11_levelNow {G : Ctx} (hW : WFG G) {t : Nat} {M M' : Mem} {r : Int32} (h0 : hs G t (0, 11)) (hf : f_X11_levelNow t M = some (r, M')) : Ct G yX11_levelNow cX11_levelNow 4 (some .int) 1 21 [.ref t] M (some (.int r)) M' := by
  refine ct_i hW (by decide +kernel) (Nat.le_of_ble_eq_true rfl) (fun w h hr => ?_)
  have h : Rb G cX11_levelNow RX11 4 1 21 w := h
  refine (?_ : E (fun q => q = (r, M')) (f_X11_levelNow t M) (w M 0 [(0, .ref t)] [])) _ hf rfl
  unfold f_X11_levelNow
  refine E.m (h.iconst (v := (-1 : Int32)) dX11_levelNow_0 (by decide)) ?_
  refine E.m (h.istore_n dX11_levelNow_1 (by decide) rfl) ?_
  refine E.m (h.aload_n 1 dX11_levelNow_2 rfl) ?_
  refine E.bnd (fun u1 M2 => w M2 6 [(1, .int (-1 : Int32)), (0, .ref t)] [.int u1]) (fun u1 M2 hf k => h.callV (As := []) (rest := []) (c_X11_spotNow hW h0 hf) lm_X11_spotNow lv_m_X11_spotNow ll_RX11_318 h0 lc_11 rfl rfl (Nat.le_of_ble_eq_true rfl) (by decide) dX11_levelNow_3 rfl k) (fun u1 M2 => ?_)
  refine E.m (h.istore_n dX11_levelNow_6 (by decide) rfl) ?_
  refine E.m (h.iconst (v := (0 : Int32)) dX11_levelNow_7 (by decide)) ?_
  refine E.m (h.istore_n dX11_levelNow_8 (by decide) rfl) ?_
  refine E.m (h.sub [3, 2, 1, 0] rfl) ?_
  refine E.loop3 (fun k3 k4 M5 => w M5 9 [(0, .ref t), (1, .int k3), (2, .int u1), (3, .int k4)] []) (fun k3 k4 M5 => ?_) _ _ _ _
  unfold l_X11_levelNow_9
  refine E.m (h.iload_n 3 dX11_levelNow_9 rfl) ?_
  refine E.m (h.bipush (v := (64 : Int32)) dX11_levelNow_10 (by decide)) ?_
  refine E.join0 (fun _ => w M5 74 [(0, .ref t), (1, .int k3), (2, .int u1), (3, .int k4)] []) (fun _ => ?_) (fun J74 hJ74 => ?_)
  · refine E.m (h.iload_n 1 dX11_levelNow_74 rfl) ?_
    refine E.m (h.iconst (v := (-1 : Int32)) dX11_levelNow_75 (by decide)) ?_
    refine E.join1 (fun z6 => w M5 101 [(0, .ref t), (1, .int k3), (2, .int u1), (3, .int k4)] [.int z6]) (fun z6 => ?_) (fun J101 hJ101 => ?_)
    · exact E.some (ret_i hr rfl dX11_levelNow_101)
    refine E.br (fun k1 k2 => h.icmp_ne (tgt := 83) dX11_levelNow_76 (by decide) k2 k1) ?_ ?_
    · refine E.m (h.iconst (v := (0 : Int32)) dX11_levelNow_79 (by decide)) ?_
      refine E.m (h.goto (tgt := 101) dX11_levelNow_80 (by decide)) ?_
      exact hJ101 _
    · refine E.m (h.iload_n 1 dX11_levelNow_83 rfl) ?_
      refine E.m (h.iconst (v := (1 : Int32)) dX11_levelNow_84 (by decide)) ?_
      refine E.m (h.iadd dX11_levelNow_85) ?_
      refine E.m (h.aload_n 0 dX11_levelNow_86 rfl) ?_
      refine E.m (h.get h0 lf_RX11_44 dX11_levelNow_87 fv_11_3) ?_
      refine E.m (h.iconst (v := (0 : Int32)) dX11_levelNow_90 (by decide)) ?_
      refine E.m (h.ialdk (k := 0) (hW.clo 42 h0 rfl) (by decide) rfl dX11_levelNow_91) ?_
      refine E.m (h.imul dX11_levelNow_92) ?_
      refine E.m (h.aload_n 0 dX11_levelNow_93 rfl) ?_
      refine E.m (h.get h0 lf_RX11_59 dX11_levelNow_94 fv_11_8) ?_
      refine E.m (h.bipush (v := (14 : Int32)) dX11_levelNow_97 (by decide)) ?_
      refine E.m (h.ialdk (k := 14) (hW.clo 47 h0 rfl) (by decide) rfl dX11_levelNow_99) ?_
      refine E.m (h.isub dX11_levelNow_100) ?_
      exact hJ101 _
  refine E.br (fun k1 k2 => h.icmp_ge (tgt := 74) dX11_levelNow_12 (by decide) k1 k2) ?_ ?_
  · exact hJ74 ()
  · refine E.m (h.aload_n 0 dX11_levelNow_15 rfl) ?_
    refine E.m (h.get h0 lf_RX11_59 dX11_levelNow_16 fv_11_8) ?_
    refine E.m (h.bipush (v := (8 : Int32)) dX11_levelNow_19 (by decide)) ?_
    refine E.m (h.ialdk (k := 8) (hW.clo 47 h0 rfl) (by decide) rfl dX11_levelNow_21) ?_
    refine E.br (fun k1 k2 => h.if_eq (tgt := 74) dX11_levelNow_22 (by decide) k1 k2) ?_ ?_
    · exact hJ74 ()
    · refine E.m (h.aload_n 0 dX11_levelNow_25 rfl) ?_
      refine E.m (h.get h0 lf_RX11_59 dX11_levelNow_26 fv_11_8) ?_
      refine E.m (h.sipush (v := (153 : Int32)) dX11_levelNow_29 (by decide)) ?_
      refine E.m (h.iload_n 3 dX11_levelNow_32 rfl) ?_
      refine E.m (h.iadd dX11_levelNow_33) ?_
      refine E.gi (fun hi k => h.iald (hW.clo 47 h0 rfl) hi dX11_levelNow_34 k) ?_
      refine E.m (h.iconst (v := (-1 : Int32)) dX11_levelNow_35 (by decide)) ?_
      refine E.join2 (fun z7 M8 => w M8 68 [(0, .ref t), (1, .int z7), (2, .int u1), (3, .int k4)] []) (fun z7 M8 => ?_) (fun J68 hJ68 => ?_)
      · refine E.m (h.iinc (v := (1 : Int32)) 3 dX11_levelNow_68 rfl (by decide) (by decide) rfl) ?_
        refine E.nmL (fun y9 => ?_)
        refine E.m (h.goto (tgt := 9) dX11_levelNow_71 (by decide)) ?_
        refine E.m (h.sub [1, 2, 3, 0] rfl) ?_
        exact E.some (fun q => q)
      refine E.br (fun k1 k2 => h.icmp_eq (tgt := 68) dX11_levelNow_36 (by decide) k1 k2) ?_ ?_
      · exact hJ68 _ _
      · refine E.m (h.aload_n 0 dX11_levelNow_39 rfl) ?_
        refine E.m (h.get h0 lf_RX11_59 dX11_levelNow_40 fv_11_8) ?_
        refine E.m (h.sipush (v := (217 : Int32)) dX11_levelNow_43 (by decide)) ?_
        refine E.m (h.iload_n 3 dX11_levelNow_46 rfl) ?_
        refine E.m (h.iadd dX11_levelNow_47) ?_
        refine E.gi (fun hi k => h.iald (hW.clo 47 h0 rfl) hi dX11_levelNow_48 k) ?_
        refine E.m (h.iload_n 2 dX11_levelNow_49 rfl) ?_
        refine E.br (fun k1 k2 => h.icmp_lt (tgt := 68) dX11_levelNow_50 (by decide) k1 k2) ?_ ?_
        · exact hJ68 _ _
        · refine E.m (h.iload_n 1 dX11_levelNow_53 rfl) ?_
          refine E.m (h.aload_n 0 dX11_levelNow_54 rfl) ?_
          refine E.m (h.get h0 lf_RX11_59 dX11_levelNow_55 fv_11_8) ?_
          refine E.m (h.sipush (v := (217 : Int32)) dX11_levelNow_58 (by decide)) ?_
          refine E.m (h.iload_n 3 dX11_levelNow_61 rfl) ?_
          refine E.m (h.iadd dX11_levelNow_62) ?_
          refine E.gi (fun hi k => h.iald (hW.clo 47 h0 rfl) hi dX11_levelNow_63 k) ?_
          refine E.bnd (fun u10 M11 => w M11 67 [(0, .ref t), (1, .int k3), (2, .int u1), (3, .int k4)] [.int u10]) (fun u10 M11 hf k => h.callS (As := [.int k3, .int (M5.1 (t + 8) ((217 : Int32) + k4).toNatClampNeg)]) (rest := []) (c_J9_max_7cf53 hW hf) lm_J9_max_7cf53 ls_m_J9_max_7cf53 ll_RX11_130 rfl rfl (Nat.le_of_ble_eq_true rfl) (by decide) dX11_levelNow_64 rfl k) (fun u10 M11 => ?_)
          refine E.m (h.istore_n dX11_levelNow_67 (by decide) rfl) ?_
          refine E.m (h.sub [1, 0, 2, 3] rfl) ?_
          exact hJ68 _ _
def f_X11_steer (t : Nat) (M : Mem) : Option (Unit × Mem) :=
  bd (f_X11_levelNow t M) (fun u1 M2 => jn1 (fun M3 => jn0 (fun _ => some ((), M3)) (fun J94 => if (M3.1 (t + 8) 8) = (2 : Int32) then (gdp (¬ (M3.1 (t + 3) 4) = 0) (if ((M3.1 (t + 8) 0) - (M3.1 (t + 8) 0) / (M3.1 (t + 3) 4) * (M3.1 (t + 3) 4)) = 0 then (nm (u1 - (M3.1 (t + 8) 29)) (fun y4 => bd (f_X11_within ((M3.1 (t + 8) 10) + ((M3.1 t 25) * y4)) (-3200 : Int32) (3200 : Int32) M3) (fun u5 M6 => nm (wi M6 (t + 8) 10 u5) (fun M7 => bd (f_X11_within ((((M7.1 t 24) * y4) + (M7.1 (t + 8) 10)) / (16 : Int32)) (-200 : Int32) (200 : Int32) M7) (fun u8 M9 => nm (wi M9 (t + 8) 9 u8) (fun M10 => gdi ((281 : Int32) + ((M10.1 (t + 8) 32) - (M10.1 (t + 8) 32) / (128 : Int32) * (128 : Int32))) 665 (nm (wi M10 (t + 8) ((281 : Int32) + ((M10.1 (t + 8) 32) - (M10.1 (t + 8) 32) / (128 : Int32) * (128 : Int32))).toNatClampNeg (M10.1 (t + 8) 11)) (fun M11 => nm (wi M11 (t + 8) 32 ((M11.1 (t + 8) 32) + (1 : Int32))) (fun M12 => some ((), M12)))))))))) else (J94 ()))) else (J94 ()))) (fun J67 => if (M2.1 (t + 8) 8) = (1 : Int32) then (if u1 < (M2.1 (t + 8) 29) then (J67 M2) else (nm (wi M2 (t + 8) 8 (2 : Int32)) (fun M13 => nm (wi M13 (t + 8) 23 (0 : Int32)) (fun M14 => nm (wi M14 (t + 8) 10 (0 : Int32)) (fun M15 => nm (wi M15 (t + 8) 9 (0 : Int32)) (fun M16 => nm (wi M16 (t + 8) 11 (0 : Int32)) (fun M17 => J67 M17))))))) else (J67 M2)))
set_option maxRecDepth 20000 in
theorem c_X11_steer {G : Ctx} (hW : WFG G) {t : Nat} {M M' : Mem} (h0 : hs G t (0, 11)) (hf : f_X11_steer t M = some ((), M')) : Ct G yX11_steer cX11_steer 3 none 2 44 [.ref t] M none M' := by
  refine ct_v hW (by decide +kernel) (Nat.le_of_ble_eq_true rfl) (fun w h hr => ?_)
  have h : Rb G cX11_steer RX11 3 2 44 w := h
  refine (?_ : E (fun q => q = ((), M')) (f_X11_steer t M) (w M 0 [(0, .ref t)] [])) _ hf rfl
  unfold f_X11_steer
  refine E.m (h.aload_n 0 dX11_steer_0 rfl) ?_
  refine E.bnd (fun u1 M2 => w M2 4 [(0, .ref t)] [.int u1]) (fun u1 M2 hf k => h.callV (As := []) (rest := []) (c_X11_levelNow hW h0 hf) lm_X11_levelNow lv_m_X11_levelNow ll_RX11_325 h0 lc_11 rfl rfl (Nat.le_of_ble_eq_true rfl) (by decide) dX11_steer_1 rfl k) (fun u1 M2 => ?_)
  refine E.m (h.istore_n dX11_steer_4 (by decide) rfl) ?_
  refine E.m (h.aload_n 1 dX11_steer_5 rfl) ?_
  refine E.m (h.get h0 lf_RX11_59 dX11_steer_6 fv_11_8) ?_
  refine E.m (h.bipush (v := (8 : Int32)) dX11_steer_9 (by decide)) ?_
  refine E.m (h.ialdk (k := 8) (hW.clo 47 h0 rfl) (by decide) rfl dX11_steer_11) ?_
  refine E.m (h.iconst (v := (1 : Int32)) dX11_steer_12 (by decide)) ?_
  refine E.join1 (fun M3 => w M3 67 [(0, .ref t), (1, .int u1)] []) (fun M3 => ?_) (fun J67 hJ67 => ?_)
  · refine E.m (h.aload_n 0 dX11_steer_67 rfl) ?_
    refine E.m (h.get h0 lf_RX11_59 dX11_steer_68 fv_11_8) ?_
    refine E.m (h.bipush (v := (8 : Int32)) dX11_steer_71 (by decide)) ?_
    refine E.m (h.ialdk (k := 8) (hW.clo 47 h0 rfl) (by decide) rfl dX11_steer_73) ?_
    refine E.m (h.iconst (v := (2 : Int32)) dX11_steer_74 (by decide)) ?_
    refine E.join0 (fun _ => w M3 94 [(0, .ref t), (1, .int u1)] []) (fun _ => ?_) (fun J94 hJ94 => ?_)
    · exact E.some (ret_v hr dX11_steer_94)
    refine E.br (fun k1 k2 => h.icmp_ne (tgt := 94) dX11_steer_75 (by decide) k2 k1) ?_ ?_
    · refine E.m (h.aload_n 0 dX11_steer_78 rfl) ?_
      refine E.m (h.get h0 lf_RX11_59 dX11_steer_79 fv_11_8) ?_
      refine E.m (h.iconst (v := (0 : Int32)) dX11_steer_82 (by decide)) ?_
      refine E.m (h.ialdk (k := 0) (hW.clo 47 h0 rfl) (by decide) rfl dX11_steer_83) ?_
      refine E.m (h.aload_n 0 dX11_steer_84 rfl) ?_
      refine E.m (h.get h0 lf_RX11_44 dX11_steer_85 fv_11_3) ?_
      refine E.m (h.iconst (v := (4 : Int32)) dX11_steer_88 (by decide)) ?_
      refine E.m (h.ialdk (k := 4) (hW.clo 42 h0 rfl) (by decide) rfl dX11_steer_89) ?_
      refine E.gd (fun hc k => h.irem hc dX11_steer_90 k) (fun _ => ?_)
      refine E.br (fun k1 k2 => h.if_eq (tgt := 95) dX11_steer_91 (by decide) k1 k2) ?_ ?_
      · refine E.m (h.iload_n 1 dX11_steer_95 rfl) ?_
        refine E.m (h.aload_n 0 dX11_steer_96 rfl) ?_
        refine E.m (h.get h0 lf_RX11_59 dX11_steer_97 fv_11_8) ?_
        refine E.m (h.bipush (v := (29 : Int32)) dX11_steer_100 (by decide)) ?_
        refine E.m (h.ialdk (k := 29) (hW.clo 47 h0 rfl) (by decide) rfl dX11_steer_102) ?_
        refine E.m (h.isub dX11_steer_103) ?_
        refine E.m (h.istore_n dX11_steer_104 (by decide) rfl) ?_
        refine E.nmL (fun y4 => ?_)
        refine E.m (h.aload_n 1 dX11_steer_105 rfl) ?_
        refine E.m (h.get h0 lf_RX11_59 dX11_steer_106 fv_11_8) ?_
        refine E.m (h.bipush (v := (10 : Int32)) dX11_steer_109 (by decide)) ?_
        refine E.m (h.aload_n 1 dX11_steer_111 rfl) ?_
        refine E.m (h.get h0 lf_RX11_59 dX11_steer_112 fv_11_8) ?_
        refine E.m (h.bipush (v := (10 : Int32)) dX11_steer_115 (by decide)) ?_
        refine E.m (h.ialdk (k := 10) (hW.clo 47 h0 rfl) (by decide) rfl dX11_steer_117) ?_
        refine E.m (h.aload_n 1 dX11_steer_118 rfl) ?_
        refine E.m (h.get h0 lf_RX11_269 dX11_steer_119 fv_11_25) ?_
        refine E.m (h.iload_n 0 dX11_steer_122 rfl) ?_
        refine E.m (h.imul dX11_steer_123) ?_
        refine E.m (h.iadd dX11_steer_124) ?_
        refine E.m (h.sipush (v := (-3200 : Int32)) dX11_steer_125 (by decide)) ?_
        refine E.m (h.sipush (v := (3200 : Int32)) dX11_steer_128 (by decide)) ?_
        refine E.bnd (fun u5 M6 => w M6 134 [(2, .int y4), (0, .ref t), (1, .int u1)] [.int u5, .int (10 : Int32), .ref (t + 8)]) (fun u5 M6 hf k => h.callS (As := [.int ((M3.1 (t + 8) 10) + ((M3.1 t 25) * y4)), .int (-3200 : Int32), .int (3200 : Int32)]) (rest := [.int (10 : Int32), .ref (t + 8)]) (c_X11_within hW hf) lm_X11_within ls_m_X11_within ll_RX11_308 rfl rfl (Nat.le_of_ble_eq_true rfl) (by decide) dX11_steer_131 rfl k) (fun u5 M6 => ?_)
        refine E.m (h.iastk (k := 10) (hW.clo 47 h0 rfl) (by decide) rfl dX11_steer_134) ?_
        refine E.nmM (fun M7 => ?_)
        refine E.m (h.aload_n 1 dX11_steer_135 rfl) ?_
        refine E.m (h.get h0 lf_RX11_59 dX11_steer_136 fv_11_8) ?_
        refine E.m (h.bipush (v := (9 : Int32)) dX11_steer_139 (by decide)) ?_
        refine E.m (h.aload_n 1 dX11_steer_141 rfl) ?_
        refine E.m (h.get h0 lf_RX11_266 dX11_steer_142 fv_11_24) ?_
        refine E.m (h.iload_n 0 dX11_steer_145 rfl) ?_
        refine E.m (h.imul dX11_steer_146) ?_
        refine E.m (h.aload_n 1 dX11_steer_147 rfl) ?_
        refine E.m (h.get h0 lf_RX11_59 dX11_steer_148 fv_11_8) ?_
        refine E.m (h.bipush (v := (10 : Int32)) dX11_steer_151 (by decide)) ?_
        refine E.m (h.ialdk (k := 10) (hW.clo 47 h0 rfl) (by decide) rfl dX11_steer_153) ?_
        refine E.m (h.iadd dX11_steer_154) ?_
        refine E.m (h.bipush (v := (16 : Int32)) dX11_steer_155 (by decide)) ?_
        refine E.m (h.idiv (by decide) dX11_steer_157) ?_
        refine E.m (h.sipush (v := (-200 : Int32)) dX11_steer_158 (by decide)) ?_
        refine E.m (h.sipush (v := (200 : Int32)) dX11_steer_161 (by decide)) ?_
        refine E.bnd (fun u8 M9 => w M9 167 [(2, .int y4), (0, .ref t), (1, .int u1)] [.int u8, .int (9 : Int32), .ref (t + 8)]) (fun u8 M9 hf k => h.callS (As := [.int ((((M7.1 t 24) * y4) + (M7.1 (t + 8) 10)) / (16 : Int32)), .int (-200 : Int32), .int (200 : Int32)]) (rest := [.int (9 : Int32), .ref (t + 8)]) (c_X11_within hW hf) lm_X11_within ls_m_X11_within ll_RX11_308 rfl rfl (Nat.le_of_ble_eq_true rfl) (by decide) dX11_steer_164 rfl k) (fun u8 M9 => ?_)
        refine E.m (h.iastk (k := 9) (hW.clo 47 h0 rfl) (by decide) rfl dX11_steer_167) ?_
        refine E.nmM (fun M10 => ?_)
        refine E.m (h.aload_n 1 dX11_steer_168 rfl) ?_
        refine E.m (h.get h0 lf_RX11_59 dX11_steer_169 fv_11_8) ?_
        refine E.m (h.sipush (v := (281 : Int32)) dX11_steer_172 (by decide)) ?_
        refine E.m (h.aload_n 1 dX11_steer_175 rfl) ?_
        refine E.m (h.get h0 lf_RX11_59 dX11_steer_176 fv_11_8) ?_
        refine E.m (h.bipush (v := (32 : Int32)) dX11_steer_179 (by decide)) ?_
        refine E.m (h.ialdk (k := 32) (hW.clo 47 h0 rfl) (by decide) rfl dX11_steer_181) ?_
        refine E.m (h.sipush (v := (128 : Int32)) dX11_steer_182 (by decide)) ?_
        refine E.m (h.irem (by decide) dX11_steer_185) ?_
        refine E.m (h.iadd dX11_steer_186) ?_
        refine E.m (h.aload_n 1 dX11_steer_187 rfl) ?_
        refine E.m (h.get h0 lf_RX11_59 dX11_steer_188 fv_11_8) ?_
        refine E.m (h.bipush (v := (11 : Int32)) dX11_steer_191 (by decide)) ?_
        refine E.m (h.ialdk (k := 11) (hW.clo 47 h0 rfl) (by decide) rfl dX11_steer_193) ?_
        refine E.gi (fun hi k => h.iast (hW.clo 47 h0 rfl) hi dX11_steer_194 k) ?_
        refine E.nmM (fun M11 => ?_)
        refine E.m (h.aload_n 1 dX11_steer_195 rfl) ?_
        refine E.m (h.get h0 lf_RX11_59 dX11_steer_196 fv_11_8) ?_
        refine E.m (h.bipush (v := (32 : Int32)) dX11_steer_199 (by decide)) ?_
        refine E.m (h.dup2 dX11_steer_201 rfl rfl) ?_
        refine E.m (h.ialdk (k := 32) (hW.clo 47 h0 rfl) (by decide) rfl dX11_steer_202) ?_
        refine E.m (h.iconst (v := (1 : Int32)) dX11_steer_203 (by decide)) ?_
        refine E.m (h.iadd dX11_steer_204) ?_
        refine E.m (h.iastk (k := 32) (hW.clo 47 h0 rfl) (by decide) rfl dX11_steer_205) ?_
        refine E.nmM (fun M12 => ?_)
        exact E.some (ret_v hr dX11_steer_206)
      · exact hJ94 ()
    · exact hJ94 ()
  refine E.br (fun k1 k2 => h.icmp_ne (tgt := 67) dX11_steer_13 (by decide) k2 k1) ?_ ?_
  · refine E.m (h.iload_n 0 dX11_steer_16 rfl) ?_
    refine E.m (h.aload_n 1 dX11_steer_17 rfl) ?_
    refine E.m (h.get h0 lf_RX11_59 dX11_steer_18 fv_11_8) ?_
    refine E.m (h.bipush (v := (29 : Int32)) dX11_steer_21 (by decide)) ?_
    refine E.m (h.ialdk (k := 29) (hW.clo 47 h0 rfl) (by decide) rfl dX11_steer_23) ?_
    refine E.br (fun k1 k2 => h.icmp_lt (tgt := 67) dX11_steer_24 (by decide) k1 k2) ?_ ?_
    · refine E.m (h.sub [1, 0] rfl) ?_
      exact hJ67 _
    · refine E.m (h.aload_n 1 dX11_steer_27 rfl) ?_
      refine E.m (h.get h0 lf_RX11_59 dX11_steer_28 fv_11_8) ?_
      refine E.m (h.bipush (v := (8 : Int32)) dX11_steer_31 (by decide)) ?_
      refine E.m (h.iconst (v := (2 : Int32)) dX11_steer_33 (by decide)) ?_
      refine E.m (h.iastk (k := 8) (hW.clo 47 h0 rfl) (by decide) rfl dX11_steer_34) ?_
      refine E.nmM (fun M13 => ?_)
      refine E.m (h.aload_n 1 dX11_steer_35 rfl) ?_
      refine E.m (h.get h0 lf_RX11_59 dX11_steer_36 fv_11_8) ?_
      refine E.m (h.bipush (v := (23 : Int32)) dX11_steer_39 (by decide)) ?_
      refine E.m (h.iconst (v := (0 : Int32)) dX11_steer_41 (by decide)) ?_
      refine E.m (h.iastk (k := 23) (hW.clo 47 h0 rfl) (by decide) rfl dX11_steer_42) ?_
      refine E.nmM (fun M14 => ?_)
      refine E.m (h.aload_n 1 dX11_steer_43 rfl) ?_
      refine E.m (h.get h0 lf_RX11_59 dX11_steer_44 fv_11_8) ?_
      refine E.m (h.bipush (v := (10 : Int32)) dX11_steer_47 (by decide)) ?_
      refine E.m (h.iconst (v := (0 : Int32)) dX11_steer_49 (by decide)) ?_
      refine E.m (h.iastk (k := 10) (hW.clo 47 h0 rfl) (by decide) rfl dX11_steer_50) ?_
      refine E.nmM (fun M15 => ?_)
      refine E.m (h.aload_n 1 dX11_steer_51 rfl) ?_
      refine E.m (h.get h0 lf_RX11_59 dX11_steer_52 fv_11_8) ?_
      refine E.m (h.bipush (v := (9 : Int32)) dX11_steer_55 (by decide)) ?_
      refine E.m (h.iconst (v := (0 : Int32)) dX11_steer_57 (by decide)) ?_
      refine E.m (h.iastk (k := 9) (hW.clo 47 h0 rfl) (by decide) rfl dX11_steer_58) ?_
      refine E.nmM (fun M16 => ?_)
      refine E.m (h.aload_n 1 dX11_steer_59 rfl) ?_
      refine E.m (h.get h0 lf_RX11_59 dX11_steer_60 fv_11_8) ?_
      refine E.m (h.bipush (v := (11 : Int32)) dX11_steer_63 (by decide)) ?_
      refine E.m (h.iconst (v := (0 : Int32)) dX11_steer_65 (by decide)) ?_
      refine E.m (h.iastk (k := 11) (hW.clo 47 h0 rfl) (by decide) rfl dX11_steer_66) ?_
      refine E.nmM (fun M17 => ?_)
      refine E.m (h.sub [1, 0] rfl) ?_
      exact hJ67 _
  · refine E.m (h.sub [1, 0] rfl) ?_
    exact hJ67 _
def f_X11_octetOf (t : Nat) (x1_ : Int32) (M : Mem) : Option (Int32 × Mem) :=
  gdp (¬ (M.1 (t + 3) 7) = 0) (gdi (x1_ - x1_ / (M.1 (t + 3) 7) * (M.1 (t + 3) 7)) 32 (some (((M.1 (t + 4) (x1_ - x1_ / (M.1 (t + 3) 7) * (M.1 (t + 3) 7)).toNatClampNeg) + x1_) &&& (255 : Int32), M)))
set_option maxRecDepth 20000 in
theorem c_X11_octetOf {G : Ctx} (hW : WFG G) {t : Nat} {x1_ : Int32} {M M' : Mem} {r : Int32} (h0 : hs G t (0, 11)) (hf : f_X11_octetOf t x1_ M = some (r, M')) : Ct G yX11_octetOf cX11_octetOf 2 (some .int) 0 0 [.ref t, .int x1_] M (some (.int r)) M' := by
  refine ct_i hW (by decide +kernel) (Nat.le_of_ble_eq_true rfl) (fun w h hr => ?_)
  have h : Rb G cX11_octetOf RX11 2 0 0 w := h
  refine (?_ : E (fun q => q = (r, M')) (f_X11_octetOf t x1_ M) (w M 0 [(0, .ref t), (1, .int x1_)] [])) _ hf rfl
  unfold f_X11_octetOf
  refine E.m (h.aload_n 0 dX11_octetOf_0 rfl) ?_
  refine E.m (h.get h0 lf_RX11_48 dX11_octetOf_1 fv_11_4) ?_
  refine E.m (h.iload_n 1 dX11_octetOf_4 rfl) ?_
  refine E.m (h.aload_n 0 dX11_octetOf_5 rfl) ?_
  refine E.m (h.get h0 lf_RX11_44 dX11_octetOf_6 fv_11_3) ?_
  refine E.m (h.bipush (v := (7 : Int32)) dX11_octetOf_9 (by decide)) ?_
  refine E.m (h.ialdk (k := 7) (hW.clo 42 h0 rfl) (by decide) rfl dX11_octetOf_11) ?_
  refine E.gd (fun hc k => h.irem hc dX11_octetOf_12 k) (fun _ => ?_)
  refine E.gi (fun hi k => h.iald (hW.clo 43 h0 rfl) hi dX11_octetOf_13 k) ?_
  refine E.m (h.iload_n 1 dX11_octetOf_14 rfl) ?_
  refine E.m (h.iadd dX11_octetOf_15) ?_
  refine E.m (h.sipush (v := (255 : Int32)) dX11_octetOf_16 (by decide)) ?_
  refine E.m (h.iand dX11_octetOf_19) ?_
  exact E.some (ret_i hr rfl dX11_octetOf_20)
def f_X11_playedBack (t : Nat) (x1_ : Int32) (M : Mem) : Option (Int32 × Mem) :=
  jn1 (fun z1 => some (z1, M)) (fun J38 => if x1_ ≤ (M.1 (t + 8) 6) then (gdi ((409 : Int32) + (((M.1 (t + 8) 6) - x1_) - ((M.1 (t + 8) 6) - x1_) / (128 : Int32) * (128 : Int32))) 665 (J38 (M.1 (t + 8) ((409 : Int32) + (((M.1 (t + 8) 6) - x1_) - ((M.1 (t + 8) 6) - x1_) / (128 : Int32) * (128 : Int32))).toNatClampNeg))) else (J38 (126 : Int32)))
set_option maxRecDepth 20000 in
theorem c_X11_playedBack {G : Ctx} (hW : WFG G) {t : Nat} {x1_ : Int32} {M M' : Mem} {r : Int32} (h0 : hs G t (0, 11)) (hf : f_X11_playedBack t x1_ M = some (r, M')) : Ct G yX11_playedBack cX11_playedBack 2 (some .int) 0 0 [.ref t, .int x1_] M (some (.int r)) M' := by
  refine ct_i hW (by decide +kernel) (Nat.le_of_ble_eq_true rfl) (fun w h hr => ?_)
  have h : Rb G cX11_playedBack RX11 2 0 0 w := h
  refine (?_ : E (fun q => q = (r, M')) (f_X11_playedBack t x1_ M) (w M 0 [(0, .ref t), (1, .int x1_)] [])) _ hf rfl
  unfold f_X11_playedBack
  refine E.m (h.aload_n 0 dX11_playedBack_0 rfl) ?_
  refine E.m (h.get h0 lf_RX11_59 dX11_playedBack_1 fv_11_8) ?_
  refine E.m (h.bipush (v := (6 : Int32)) dX11_playedBack_4 (by decide)) ?_
  refine E.m (h.ialdk (k := 6) (hW.clo 47 h0 rfl) (by decide) rfl dX11_playedBack_6) ?_
  refine E.m (h.iload_n 1 dX11_playedBack_7 rfl) ?_
  refine E.join1 (fun z1 => w M 38 [(0, .ref t), (1, .int x1_)] [.int z1]) (fun z1 => ?_) (fun J38 hJ38 => ?_)
  · exact E.some (ret_i hr rfl dX11_playedBack_38)
  refine E.br (fun k1 k2 => h.icmp_ge (tgt := 16) dX11_playedBack_8 (by decide) k1 k2) ?_ ?_
  · refine E.m (h.aload_n 0 dX11_playedBack_16 rfl) ?_
    refine E.m (h.get h0 lf_RX11_59 dX11_playedBack_17 fv_11_8) ?_
    refine E.m (h.sipush (v := (409 : Int32)) dX11_playedBack_20 (by decide)) ?_
    refine E.m (h.aload_n 0 dX11_playedBack_23 rfl) ?_
    refine E.m (h.get h0 lf_RX11_59 dX11_playedBack_24 fv_11_8) ?_
    refine E.m (h.bipush (v := (6 : Int32)) dX11_playedBack_27 (by decide)) ?_
    refine E.m (h.ialdk (k := 6) (hW.clo 47 h0 rfl) (by decide) rfl dX11_playedBack_29) ?_
    refine E.m (h.iload_n 1 dX11_playedBack_30 rfl) ?_
    refine E.m (h.isub dX11_playedBack_31) ?_
    refine E.m (h.sipush (v := (128 : Int32)) dX11_playedBack_32 (by decide)) ?_
    refine E.m (h.irem (by decide) dX11_playedBack_35) ?_
    refine E.m (h.iadd dX11_playedBack_36) ?_
    refine E.gi (fun hi k => h.iald (hW.clo 47 h0 rfl) hi dX11_playedBack_37 k) ?_
    exact hJ38 _
  · refine E.m (h.bipush (v := (126 : Int32)) dX11_playedBack_11 (by decide)) ?_
    refine E.m (h.goto (tgt := 38) dX11_playedBack_13 (by decide)) ?_
    exact hJ38 _
def f_X11_filler (t : Nat) (M : Mem) : Option (Int32 × Mem) :=
  if (M.1 (t + 8) 28) = (1 : Int32) then (some ((126 : Int32), M)) else (jn1 (fun z1 => bd (f_X11_playedBack t z1 M) (fun u2 M3 => some (u2, M3))) (fun J36 => if (M.1 (t + 8) 28) = 0 then (J36 (1 : Int32)) else (J36 (M.1 (t + 3) 6))))
set_option maxRecDepth 20000 in
theorem c_X11_filler {G : Ctx} (hW : WFG G) {t : Nat} {M M' : Mem} {r : Int32} (h0 : hs G t (0, 11)) (hf : f_X11_filler t M = some (r, M')) : Ct G yX11_filler cX11_filler 1 (some .int) 1 21 [.ref t] M (some (.int r)) M' := by
  refine ct_i hW (by decide +kernel) (Nat.le_of_ble_eq_true rfl) (fun w h hr => ?_)
  have h : Rb G cX11_filler RX11 1 1 21 w := h
  refine (?_ : E (fun q => q = (r, M')) (f_X11_filler t M) (w M 0 [(0, .ref t)] [])) _ hf rfl
  unfold f_X11_filler
  refine E.m (h.aload_n 0 dX11_filler_0 rfl) ?_
  refine E.m (h.get h0 lf_RX11_59 dX11_filler_1 fv_11_8) ?_
  refine E.m (h.bipush (v := (28 : Int32)) dX11_filler_4 (by decide)) ?_
  refine E.m (h.ialdk (k := 28) (hW.clo 47 h0 rfl) (by decide) rfl dX11_filler_6) ?_
  refine E.m (h.iconst (v := (1 : Int32)) dX11_filler_7 (by decide)) ?_
  refine E.br (fun k1 k2 => h.icmp_ne (tgt := 14) dX11_filler_8 (by decide) k2 k1) ?_ ?_
  · refine E.m (h.bipush (v := (126 : Int32)) dX11_filler_11 (by decide)) ?_
    exact E.some (ret_i hr rfl dX11_filler_13)
  · refine E.m (h.aload_n 0 dX11_filler_14 rfl) ?_
    refine E.m (h.aload_n 0 dX11_filler_15 rfl) ?_
    refine E.m (h.get h0 lf_RX11_59 dX11_filler_16 fv_11_8) ?_
    refine E.m (h.bipush (v := (28 : Int32)) dX11_filler_19 (by decide)) ?_
    refine E.m (h.ialdk (k := 28) (hW.clo 47 h0 rfl) (by decide) rfl dX11_filler_21) ?_
    refine E.join1 (fun z1 => w M 36 [(0, .ref t)] [.int z1, .ref t]) (fun z1 => ?_) (fun J36 hJ36 => ?_)
    · refine E.bnd (fun u2 M3 => w M3 39 [(0, .ref t)] [.int u2]) (fun u2 M3 hf k => h.callV (As := [.int z1]) (rest := []) (c_X11_playedBack hW h0 hf) lm_X11_playedBack lv_m_X11_playedBack ll_RX11_328 h0 lc_11 rfl rfl (Nat.le_of_ble_eq_true rfl) (by decide) dX11_filler_36 rfl k) (fun u2 M3 => ?_)
      exact E.some (ret_i hr rfl dX11_filler_39)
    refine E.br (fun k1 k2 => h.if_ne (tgt := 29) dX11_filler_22 (by decide) k2 k1) ?_ ?_
    · refine E.m (h.iconst (v := (1 : Int32)) dX11_filler_25 (by decide)) ?_
      refine E.m (h.goto (tgt := 36) dX11_filler_26 (by decide)) ?_
      exact hJ36 _
    · refine E.m (h.aload_n 0 dX11_filler_29 rfl) ?_
      refine E.m (h.get h0 lf_RX11_44 dX11_filler_30 fv_11_3) ?_
      refine E.m (h.bipush (v := (6 : Int32)) dX11_filler_33 (by decide)) ?_
      refine E.m (h.ialdk (k := 6) (hW.clo 42 h0 rfl) (by decide) rfl dX11_filler_35) ?_
      exact hJ36 _
def f_X11_play (t : Nat) (M : Mem) : Option (Unit × Mem) :=
  bd (f_X11_spotNow t M) (fun u1 M2 => nm (u1 - u1 / (64 : Int32) * (64 : Int32)) (fun y3 => gdi ((153 : Int32) + y3) 665 (jn2 (fun z4 M5 => jn2 (fun z6 M7 => bd (f_X11_octetOf t ((((M7.1 (t + 8) 16) * (M7.1 (t + 3) 0)) + (M7.1 (t + 8) 14)) - (M7.1 (t + 8) 15)) M7) (fun u8 M9 => jn1 (fun z10 => nm (wi M9 (t + 8) 13 ((M9.1 (t + 8) 13) + z10)) (fun M11 => jn1 (fun z12 => nm (wi M11 (t + 8) 7 ((M11.1 (t + 8) 7) + z12)) (fun M13 => jn1 (fun z14 => nm (wi M13 (t + 8) 30 z14) (fun M15 => gdi ((409 : Int32) + ((M15.1 (t + 8) 6) - (M15.1 (t + 8) 6) / (128 : Int32) * (128 : Int32))) 665 (nm (wi M15 (t + 8) ((409 : Int32) + ((M15.1 (t + 8) 6) - (M15.1 (t + 8) 6) / (128 : Int32) * (128 : Int32))).toNatClampNeg z6) (fun M16 => jn1 (fun z17 => gdi ((537 : Int32) + ((M16.1 (t + 8) 6) - (M16.1 (t + 8) 6) / (128 : Int32) * (128 : Int32))) 665 (nm (wi M16 (t + 8) ((537 : Int32) + ((M16.1 (t + 8) 6) - (M16.1 (t + 8) 6) / (128 : Int32) * (128 : Int32))).toNatClampNeg z17) (fun M18 => nm (wi M18 (t + 8) 6 ((M18.1 (t + 8) 6) + (1 : Int32))) (fun M19 => nm (wi M19 (t + 8) 14 ((M19.1 (t + 8) 14) + (1 : Int32))) (fun M20 => if (64 : Int32) ≤ (M20.1 (t + 8) 30) then (nm (wi M20 (t + 8) 30 (0 : Int32)) (fun M21 => nm (wi M21 (t + 8) 8 (0 : Int32)) (fun M22 => nm (wi M22 (t + 8) 12 ((M22.1 (t + 8) 12) + (1 : Int32))) (fun M23 => bd (f_X11_emptySlots t M23) (fun _ M25 => some ((), M25)))))) else (some ((), M20))))))) (fun J246 => if z4 = 0 then (J246 (1 : Int32)) else (J246 (0 : Int32))))))) (fun J196 => if z4 = 0 then (J196 ((M13.1 (t + 8) 30) + (1 : Int32))) else (J196 (0 : Int32))))) (fun J171 => if z4 = 0 then (J171 (1 : Int32)) else (J171 (0 : Int32))))) (fun J152 => jn0 (fun _ => J152 (0 : Int32)) (fun J151 => if z4 = 0 then (J151 ()) else (if z6 = u8 then (J151 ()) else (J152 (1 : Int32))))))) (fun J92 => if z4 = 0 then (bd (f_X11_filler t M5) (fun u26 M27 => J92 u26 M27)) else (gdi ((153 : Int32) + y3) 665 (gdp (¬ (M5.1 (t + 3) 0) = 0) (bd (f_X11_octetOf t (((M5.1 (t + 8) ((153 : Int32) + y3).toNatClampNeg) * (M5.1 (t + 3) 0)) + ((M5.1 (t + 8) 14) - (M5.1 (t + 8) 14) / (M5.1 (t + 3) 0) * (M5.1 (t + 3) 0))) M5) (fun u28 M29 => J92 u28 M29)))))) (fun J44 => jn1 (fun M30 => J44 (0 : Int32) M30) (fun J43 => if (M2.1 (t + 8) ((153 : Int32) + y3).toNatClampNeg) = (-1 : Int32) then (J43 M2) else (gdi ((217 : Int32) + y3) 665 (bd (f_X11_spotNow t M2) (fun u31 M32 => if (M2.1 (t + 8) ((217 : Int32) + y3).toNatClampNeg) = u31 then (J44 (1 : Int32) M32) else (J43 M32)))))))))
set_option maxRecDepth 20000 in
theorem c_X11_play {G : Ctx} (hW : WFG G) {t : Nat} {M M' : Mem} (h0 : hs G t (0, 11)) (hf : f_X11_play t M = some ((), M')) : Ct G yX11_play cX11_play 5 none 2 41 [.ref t] M none M' := by
  refine ct_v hW (by decide +kernel) (Nat.le_of_ble_eq_true rfl) (fun w h hr => ?_)
  have h : Rb G cX11_play RX11 5 2 41 w := h
  refine (?_ : E (fun q => q = ((), M')) (f_X11_play t M) (w M 0 [(0, .ref t)] [])) _ hf rfl
  unfold f_X11_play
  refine E.m (h.aload_n 0 dX11_play_0 rfl) ?_
  refine E.bnd (fun u1 M2 => w M2 4 [(0, .ref t)] [.int u1]) (fun u1 M2 hf k => h.callV (As := []) (rest := []) (c_X11_spotNow hW h0 hf) lm_X11_spotNow lv_m_X11_spotNow ll_RX11_318 h0 lc_11 rfl rfl (Nat.le_of_ble_eq_true rfl) (by decide) dX11_play_1 rfl k) (fun u1 M2 => ?_)
  refine E.m (h.bipush (v := (64 : Int32)) dX11_play_4 (by decide)) ?_
  refine E.m (h.irem (by decide) dX11_play_6) ?_
  refine E.m (h.istore_n dX11_play_7 (by decide) rfl) ?_
  refine E.nmL (fun y3 => ?_)
  refine E.m (h.aload_n 1 dX11_play_8 rfl) ?_
  refine E.m (h.get h0 lf_RX11_59 dX11_play_9 fv_11_8) ?_
  refine E.m (h.sipush (v := (153 : Int32)) dX11_play_12 (by decide)) ?_
  refine E.m (h.iload_n 0 dX11_play_15 rfl) ?_
  refine E.m (h.iadd dX11_play_16) ?_
  refine E.gi (fun hi k => h.iald (hW.clo 47 h0 rfl) hi dX11_play_17 k) ?_
  refine E.m (h.iconst (v := (-1 : Int32)) dX11_play_18 (by decide)) ?_
  refine E.join2 (fun z4 M5 => w M5 44 [(0, .ref t), (1, .int y3)] [.int z4]) (fun z4 M5 => ?_) (fun J44 hJ44 => ?_)
  · refine E.m (h.istore_n dX11_play_44 (by decide) rfl) ?_
    refine E.m (h.iload_n 0 dX11_play_45 rfl) ?_
    refine E.join2 (fun z6 M7 => w M7 92 [(0, .ref t), (1, .int y3), (2, .int z4)] [.int z6]) (fun z6 M7 => ?_) (fun J92 hJ92 => ?_)
    · refine E.m (h.istore_n dX11_play_92 (by decide) rfl) ?_
      refine E.m (h.aload_n 1 dX11_play_93 rfl) ?_
      refine E.m (h.aload_n 1 dX11_play_94 rfl) ?_
      refine E.m (h.get h0 lf_RX11_59 dX11_play_95 fv_11_8) ?_
      refine E.m (h.bipush (v := (16 : Int32)) dX11_play_98 (by decide)) ?_
      refine E.m (h.ialdk (k := 16) (hW.clo 47 h0 rfl) (by decide) rfl dX11_play_100) ?_
      refine E.m (h.aload_n 1 dX11_play_101 rfl) ?_
      refine E.m (h.get h0 lf_RX11_44 dX11_play_102 fv_11_3) ?_
      refine E.m (h.iconst (v := (0 : Int32)) dX11_play_105 (by decide)) ?_
      refine E.m (h.ialdk (k := 0) (hW.clo 42 h0 rfl) (by decide) rfl dX11_play_106) ?_
      refine E.m (h.imul dX11_play_107) ?_
      refine E.m (h.aload_n 1 dX11_play_108 rfl) ?_
      refine E.m (h.get h0 lf_RX11_59 dX11_play_109 fv_11_8) ?_
      refine E.m (h.bipush (v := (14 : Int32)) dX11_play_112 (by decide)) ?_
      refine E.m (h.ialdk (k := 14) (hW.clo 47 h0 rfl) (by decide) rfl dX11_play_114) ?_
      refine E.m (h.iadd dX11_play_115) ?_
      refine E.m (h.aload_n 1 dX11_play_116 rfl) ?_
      refine E.m (h.get h0 lf_RX11_59 dX11_play_117 fv_11_8) ?_
      refine E.m (h.bipush (v := (15 : Int32)) dX11_play_120 (by decide)) ?_
      refine E.m (h.ialdk (k := 15) (hW.clo 47 h0 rfl) (by decide) rfl dX11_play_122) ?_
      refine E.m (h.isub dX11_play_123) ?_
      refine E.bnd (fun u8 M9 => w M9 127 [(3, .int z6), (0, .ref t), (1, .int y3), (2, .int z4)] [.int u8]) (fun u8 M9 hf k => h.callV (As := [.int ((((M7.1 (t + 8) 16) * (M7.1 (t + 3) 0)) + (M7.1 (t + 8) 14)) - (M7.1 (t + 8) 15))]) (rest := []) (c_X11_octetOf hW h0 hf) lm_X11_octetOf lv_m_X11_octetOf ll_RX11_331 h0 lc_11 rfl rfl (Nat.le_of_ble_eq_true rfl) (by decide) dX11_play_124 rfl k) (fun u8 M9 => ?_)
      refine E.m (h.istore dX11_play_127 (by decide) rfl) ?_
      refine E.m (h.aload_n 2 dX11_play_129 rfl) ?_
      refine E.m (h.get h0 lf_RX11_59 dX11_play_130 fv_11_8) ?_
      refine E.m (h.bipush (v := (13 : Int32)) dX11_play_133 (by decide)) ?_
      refine E.m (h.dup2 dX11_play_135 rfl rfl) ?_
      refine E.m (h.ialdk (k := 13) (hW.clo 47 h0 rfl) (by decide) rfl dX11_play_136) ?_
      refine E.m (h.iload_n 4 dX11_play_137 rfl) ?_
      refine E.join1 (fun z10 => w M9 152 [(0, .ref t), (1, .int y3), (2, .int z4), (3, .int z6), (4, .int u8)] [.int z10, .int (M9.1 (t + 8) 13), .int (13 : Int32), .ref (t + 8)]) (fun z10 => ?_) (fun J152 hJ152 => ?_)
      · refine E.m (h.iadd dX11_play_152) ?_
        refine E.m (h.iastk (k := 13) (hW.clo 47 h0 rfl) (by decide) rfl dX11_play_153) ?_
        refine E.nmM (fun M11 => ?_)
        refine E.m (h.aload_n 0 dX11_play_154 rfl) ?_
        refine E.m (h.get h0 lf_RX11_59 dX11_play_155 fv_11_8) ?_
        refine E.m (h.bipush (v := (7 : Int32)) dX11_play_158 (by decide)) ?_
        refine E.m (h.dup2 dX11_play_160 rfl rfl) ?_
        refine E.m (h.ialdk (k := 7) (hW.clo 47 h0 rfl) (by decide) rfl dX11_play_161) ?_
        refine E.m (h.iload_n 2 dX11_play_162 rfl) ?_
        refine E.join1 (fun z12 => w M11 171 [(0, .ref t), (1, .int y3), (2, .int z4), (3, .int z6), (4, .int u8)] [.int z12, .int (M11.1 (t + 8) 7), .int (7 : Int32), .ref (t + 8)]) (fun z12 => ?_) (fun J171 hJ171 => ?_)
        · refine E.m (h.iadd dX11_play_171) ?_
          refine E.m (h.iastk (k := 7) (hW.clo 47 h0 rfl) (by decide) rfl dX11_play_172) ?_
          refine E.nmM (fun M13 => ?_)
          refine E.m (h.aload_n 0 dX11_play_173 rfl) ?_
          refine E.m (h.get h0 lf_RX11_59 dX11_play_174 fv_11_8) ?_
          refine E.m (h.bipush (v := (30 : Int32)) dX11_play_177 (by decide)) ?_
          refine E.m (h.iload_n 2 dX11_play_179 rfl) ?_
          refine E.join1 (fun z14 => w M13 196 [(0, .ref t), (1, .int y3), (2, .int z4), (3, .int z6), (4, .int u8)] [.int z14, .int (30 : Int32), .ref (t + 8)]) (fun z14 => ?_) (fun J196 hJ196 => ?_)
          · refine E.m (h.iastk (k := 30) (hW.clo 47 h0 rfl) (by decide) rfl dX11_play_196) ?_
            refine E.nmM (fun M15 => ?_)
            refine E.m (h.aload_n 0 dX11_play_197 rfl) ?_
            refine E.m (h.get h0 lf_RX11_59 dX11_play_198 fv_11_8) ?_
            refine E.m (h.sipush (v := (409 : Int32)) dX11_play_201 (by decide)) ?_
            refine E.m (h.aload_n 0 dX11_play_204 rfl) ?_
            refine E.m (h.get h0 lf_RX11_59 dX11_play_205 fv_11_8) ?_
            refine E.m (h.bipush (v := (6 : Int32)) dX11_play_208 (by decide)) ?_
            refine E.m (h.ialdk (k := 6) (hW.clo 47 h0 rfl) (by decide) rfl dX11_play_210) ?_
            refine E.m (h.sipush (v := (128 : Int32)) dX11_play_211 (by decide)) ?_
            refine E.m (h.irem (by decide) dX11_play_214) ?_
            refine E.m (h.iadd dX11_play_215) ?_
            refine E.m (h.iload_n 3 dX11_play_216 rfl) ?_
            refine E.gi (fun hi k => h.iast (hW.clo 47 h0 rfl) hi dX11_play_217 k) ?_
            refine E.nmM (fun M16 => ?_)
            refine E.m (h.aload_n 0 dX11_play_218 rfl) ?_
            refine E.m (h.get h0 lf_RX11_59 dX11_play_219 fv_11_8) ?_
            refine E.m (h.sipush (v := (537 : Int32)) dX11_play_222 (by decide)) ?_
            refine E.m (h.aload_n 0 dX11_play_225 rfl) ?_
            refine E.m (h.get h0 lf_RX11_59 dX11_play_226 fv_11_8) ?_
            refine E.m (h.bipush (v := (6 : Int32)) dX11_play_229 (by decide)) ?_
            refine E.m (h.ialdk (k := 6) (hW.clo 47 h0 rfl) (by decide) rfl dX11_play_231) ?_
            refine E.m (h.sipush (v := (128 : Int32)) dX11_play_232 (by decide)) ?_
            refine E.m (h.irem (by decide) dX11_play_235) ?_
            refine E.m (h.iadd dX11_play_236) ?_
            refine E.m (h.iload_n 2 dX11_play_237 rfl) ?_
            refine E.join1 (fun z17 => w M16 246 [(0, .ref t), (1, .int y3), (2, .int z4), (3, .int z6), (4, .int u8)] [.int z17, .int ((537 : Int32) + ((M16.1 (t + 8) 6) - (M16.1 (t + 8) 6) / (128 : Int32) * (128 : Int32))), .ref (t + 8)]) (fun z17 => ?_) (fun J246 hJ246 => ?_)
            · refine E.gi (fun hi k => h.iast (hW.clo 47 h0 rfl) hi dX11_play_246 k) ?_
              refine E.nmM (fun M18 => ?_)
              refine E.m (h.aload_n 0 dX11_play_247 rfl) ?_
              refine E.m (h.get h0 lf_RX11_59 dX11_play_248 fv_11_8) ?_
              refine E.m (h.bipush (v := (6 : Int32)) dX11_play_251 (by decide)) ?_
              refine E.m (h.dup2 dX11_play_253 rfl rfl) ?_
              refine E.m (h.ialdk (k := 6) (hW.clo 47 h0 rfl) (by decide) rfl dX11_play_254) ?_
              refine E.m (h.iconst (v := (1 : Int32)) dX11_play_255 (by decide)) ?_
              refine E.m (h.iadd dX11_play_256) ?_
              refine E.m (h.iastk (k := 6) (hW.clo 47 h0 rfl) (by decide) rfl dX11_play_257) ?_
              refine E.nmM (fun M19 => ?_)
              refine E.m (h.aload_n 0 dX11_play_258 rfl) ?_
              refine E.m (h.get h0 lf_RX11_59 dX11_play_259 fv_11_8) ?_
              refine E.m (h.bipush (v := (14 : Int32)) dX11_play_262 (by decide)) ?_
              refine E.m (h.dup2 dX11_play_264 rfl rfl) ?_
              refine E.m (h.ialdk (k := 14) (hW.clo 47 h0 rfl) (by decide) rfl dX11_play_265) ?_
              refine E.m (h.iconst (v := (1 : Int32)) dX11_play_266 (by decide)) ?_
              refine E.m (h.iadd dX11_play_267) ?_
              refine E.m (h.iastk (k := 14) (hW.clo 47 h0 rfl) (by decide) rfl dX11_play_268) ?_
              refine E.nmM (fun M20 => ?_)
              refine E.m (h.aload_n 0 dX11_play_269 rfl) ?_
              refine E.m (h.get h0 lf_RX11_59 dX11_play_270 fv_11_8) ?_
              refine E.m (h.bipush (v := (30 : Int32)) dX11_play_273 (by decide)) ?_
              refine E.m (h.ialdk (k := 30) (hW.clo 47 h0 rfl) (by decide) rfl dX11_play_275) ?_
              refine E.m (h.bipush (v := (64 : Int32)) dX11_play_276 (by decide)) ?_
              refine E.br (fun k1 k2 => h.icmp_ge (tgt := 282) dX11_play_278 (by decide) k1 k2) ?_ ?_
              · refine E.m (h.aload_n 0 dX11_play_282 rfl) ?_
                refine E.m (h.get h0 lf_RX11_59 dX11_play_283 fv_11_8) ?_
                refine E.m (h.bipush (v := (30 : Int32)) dX11_play_286 (by decide)) ?_
                refine E.m (h.iconst (v := (0 : Int32)) dX11_play_288 (by decide)) ?_
                refine E.m (h.iastk (k := 30) (hW.clo 47 h0 rfl) (by decide) rfl dX11_play_289) ?_
                refine E.nmM (fun M21 => ?_)
                refine E.m (h.aload_n 0 dX11_play_290 rfl) ?_
                refine E.m (h.get h0 lf_RX11_59 dX11_play_291 fv_11_8) ?_
                refine E.m (h.bipush (v := (8 : Int32)) dX11_play_294 (by decide)) ?_
                refine E.m (h.iconst (v := (0 : Int32)) dX11_play_296 (by decide)) ?_
                refine E.m (h.iastk (k := 8) (hW.clo 47 h0 rfl) (by decide) rfl dX11_play_297) ?_
                refine E.nmM (fun M22 => ?_)
                refine E.m (h.aload_n 0 dX11_play_298 rfl) ?_
                refine E.m (h.get h0 lf_RX11_59 dX11_play_299 fv_11_8) ?_
                refine E.m (h.bipush (v := (12 : Int32)) dX11_play_302 (by decide)) ?_
                refine E.m (h.dup2 dX11_play_304 rfl rfl) ?_
                refine E.m (h.ialdk (k := 12) (hW.clo 47 h0 rfl) (by decide) rfl dX11_play_305) ?_
                refine E.m (h.iconst (v := (1 : Int32)) dX11_play_306 (by decide)) ?_
                refine E.m (h.iadd dX11_play_307) ?_
                refine E.m (h.iastk (k := 12) (hW.clo 47 h0 rfl) (by decide) rfl dX11_play_308) ?_
                refine E.nmM (fun M23 => ?_)
                refine E.m (h.aload_n 0 dX11_play_309 rfl) ?_
                refine E.bnd (fun _ M25 => w M25 313 [(0, .ref t), (1, .int y3), (2, .int z4), (3, .int z6), (4, .int u8)] []) (fun _ M25 hf k => h.callV (As := []) (rest := []) (c_X11_emptySlots hW h0 hf) lm_X11_emptySlots lv_m_X11_emptySlots ll_RX11_275 h0 lc_11 rfl rfl (Nat.le_of_ble_eq_true rfl) (by decide) dX11_play_310 rfl k) (fun _ M25 => ?_)
                exact E.some (ret_v hr dX11_play_313)
              · exact E.some (ret_v hr dX11_play_281)
            refine E.br (fun k1 k2 => h.if_eq (tgt := 245) dX11_play_238 (by decide) k1 k2) ?_ ?_
            · refine E.m (h.iconst (v := (1 : Int32)) dX11_play_245 (by decide)) ?_
              exact hJ246 _
            · refine E.m (h.iconst (v := (0 : Int32)) dX11_play_241 (by decide)) ?_
              refine E.m (h.goto (tgt := 246) dX11_play_242 (by decide)) ?_
              exact hJ246 _
          refine E.br (fun k1 k2 => h.if_eq (tgt := 187) dX11_play_180 (by decide) k1 k2) ?_ ?_
          · refine E.m (h.aload_n 0 dX11_play_187 rfl) ?_
            refine E.m (h.get h0 lf_RX11_59 dX11_play_188 fv_11_8) ?_
            refine E.m (h.bipush (v := (30 : Int32)) dX11_play_191 (by decide)) ?_
            refine E.m (h.ialdk (k := 30) (hW.clo 47 h0 rfl) (by decide) rfl dX11_play_193) ?_
            refine E.m (h.iconst (v := (1 : Int32)) dX11_play_194 (by decide)) ?_
            refine E.m (h.iadd dX11_play_195) ?_
            exact hJ196 _
          · refine E.m (h.iconst (v := (0 : Int32)) dX11_play_183 (by decide)) ?_
            refine E.m (h.goto (tgt := 196) dX11_play_184 (by decide)) ?_
            exact hJ196 _
        refine E.br (fun k1 k2 => h.if_eq (tgt := 170) dX11_play_163 (by decide) k1 k2) ?_ ?_
        · refine E.m (h.iconst (v := (1 : Int32)) dX11_play_170 (by decide)) ?_
          exact hJ171 _
        · refine E.m (h.iconst (v := (0 : Int32)) dX11_play_166 (by decide)) ?_
          refine E.m (h.goto (tgt := 171) dX11_play_167 (by decide)) ?_
          exact hJ171 _
      refine E.join0 (fun _ => w M9 151 [(0, .ref t), (1, .int y3), (2, .int z4), (3, .int z6), (4, .int u8)] [.int (M9.1 (t + 8) 13), .int (13 : Int32), .ref (t + 8)]) (fun _ => ?_) (fun J151 hJ151 => ?_)
      · refine E.m (h.iconst (v := (0 : Int32)) dX11_play_151 (by decide)) ?_
        exact hJ152 _
      refine E.br (fun k1 k2 => h.if_eq (tgt := 151) dX11_play_138 (by decide) k1 k2) ?_ ?_
      · refine E.m (h.sub [2, 3, 4, 1, 0] rfl) ?_
        exact hJ151 ()
      · refine E.m (h.iload_n 1 dX11_play_141 rfl) ?_
        refine E.m (h.iload 0 dX11_play_142 rfl) ?_
        refine E.br (fun k1 k2 => h.icmp_eq (tgt := 151) dX11_play_144 (by decide) k1 k2) ?_ ?_
        · refine E.m (h.sub [2, 3, 4, 1, 0] rfl) ?_
          exact hJ151 ()
        · refine E.m (h.iconst (v := (1 : Int32)) dX11_play_147 (by decide)) ?_
          refine E.m (h.goto (tgt := 152) dX11_play_148 (by decide)) ?_
          refine E.m (h.sub [2, 3, 4, 1, 0] rfl) ?_
          exact hJ152 _
    refine E.br (fun k1 k2 => h.if_eq (tgt := 88) dX11_play_46 (by decide) k1 k2) ?_ ?_
    · refine E.m (h.aload_n 1 dX11_play_88 rfl) ?_
      refine E.bnd (fun u26 M27 => w M27 92 [(2, .int z4), (0, .ref t), (1, .int y3)] [.int u26]) (fun u26 M27 hf k => h.callV (As := []) (rest := []) (c_X11_filler hW h0 hf) lm_X11_filler lv_m_X11_filler ll_RX11_334 h0 lc_11 rfl rfl (Nat.le_of_ble_eq_true rfl) (by decide) dX11_play_89 rfl k) (fun u26 M27 => ?_)
      refine E.m (h.sub [1, 2, 0] rfl) ?_
      exact hJ92 _ _
    · refine E.m (h.aload_n 1 dX11_play_49 rfl) ?_
      refine E.m (h.aload_n 1 dX11_play_50 rfl) ?_
      refine E.m (h.get h0 lf_RX11_59 dX11_play_51 fv_11_8) ?_
      refine E.m (h.sipush (v := (153 : Int32)) dX11_play_54 (by decide)) ?_
      refine E.m (h.iload_n 2 dX11_play_57 rfl) ?_
      refine E.m (h.iadd dX11_play_58) ?_
      refine E.gi (fun hi k => h.iald (hW.clo 47 h0 rfl) hi dX11_play_59 k) ?_
      refine E.m (h.aload_n 1 dX11_play_60 rfl) ?_
      refine E.m (h.get h0 lf_RX11_44 dX11_play_61 fv_11_3) ?_
      refine E.m (h.iconst (v := (0 : Int32)) dX11_play_64 (by decide)) ?_
      refine E.m (h.ialdk (k := 0) (hW.clo 42 h0 rfl) (by decide) rfl dX11_play_65) ?_
      refine E.m (h.imul dX11_play_66) ?_
      refine E.m (h.aload_n 1 dX11_play_67 rfl) ?_
      refine E.m (h.get h0 lf_RX11_59 dX11_play_68 fv_11_8) ?_
      refine E.m (h.bipush (v := (14 : Int32)) dX11_play_71 (by decide)) ?_
      refine E.m (h.ialdk (k := 14) (hW.clo 47 h0 rfl) (by decide) rfl dX11_play_73) ?_
      refine E.m (h.aload_n 1 dX11_play_74 rfl) ?_
      refine E.m (h.get h0 lf_RX11_44 dX11_play_75 fv_11_3) ?_
      refine E.m (h.iconst (v := (0 : Int32)) dX11_play_78 (by decide)) ?_
      refine E.m (h.ialdk (k := 0) (hW.clo 42 h0 rfl) (by decide) rfl dX11_play_79) ?_
      refine E.gd (fun hc k => h.irem hc dX11_play_80 k) (fun _ => ?_)
      refine E.m (h.iadd dX11_play_81) ?_
      refine E.bnd (fun u28 M29 => w M29 85 [(2, .int z4), (0, .ref t), (1, .int y3)] [.int u28]) (fun u28 M29 hf k => h.callV (As := [.int (((M5.1 (t + 8) ((153 : Int32) + y3).toNatClampNeg) * (M5.1 (t + 3) 0)) + ((M5.1 (t + 8) 14) - (M5.1 (t + 8) 14) / (M5.1 (t + 3) 0) * (M5.1 (t + 3) 0)))]) (rest := []) (c_X11_octetOf hW h0 hf) lm_X11_octetOf lv_m_X11_octetOf ll_RX11_331 h0 lc_11 rfl rfl (Nat.le_of_ble_eq_true rfl) (by decide) dX11_play_82 rfl k) (fun u28 M29 => ?_)
      refine E.m (h.goto (tgt := 92) dX11_play_85 (by decide)) ?_
      refine E.m (h.sub [1, 2, 0] rfl) ?_
      exact hJ92 _ _
  refine E.join1 (fun M30 => w M30 43 [(0, .ref t), (1, .int y3)] []) (fun M30 => ?_) (fun J43 hJ43 => ?_)
  · refine E.m (h.iconst (v := (0 : Int32)) dX11_play_43 (by decide)) ?_
    exact hJ44 _ _
  refine E.br (fun k1 k2 => h.icmp_eq (tgt := 43) dX11_play_19 (by decide) k1 k2) ?_ ?_
  · refine E.m (h.sub [1, 0] rfl) ?_
    exact hJ43 _
  · refine E.m (h.aload_n 1 dX11_play_22 rfl) ?_
    refine E.m (h.get h0 lf_RX11_59 dX11_play_23 fv_11_8) ?_
    refine E.m (h.sipush (v := (217 : Int32)) dX11_play_26 (by decide)) ?_
    refine E.m (h.iload_n 0 dX11_play_29 rfl) ?_
    refine E.m (h.iadd dX11_play_30) ?_
    refine E.gi (fun hi k => h.iald (hW.clo 47 h0 rfl) hi dX11_play_31 k) ?_
    refine E.m (h.aload_n 1 dX11_play_32 rfl) ?_
    refine E.bnd (fun u31 M32 => w M32 36 [(1, .int y3), (0, .ref t)] [.int u31, .int (M2.1 (t + 8) ((217 : Int32) + y3).toNatClampNeg)]) (fun u31 M32 hf k => h.callV (As := []) (rest := [.int (M2.1 (t + 8) ((217 : Int32) + y3).toNatClampNeg)]) (c_X11_spotNow hW h0 hf) lm_X11_spotNow lv_m_X11_spotNow ll_RX11_318 h0 lc_11 rfl rfl (Nat.le_of_ble_eq_true rfl) (by decide) dX11_play_33 rfl k) (fun u31 M32 => ?_)
    refine E.br (fun k1 k2 => h.icmp_ne (tgt := 43) dX11_play_36 (by decide) k2 k1) ?_ ?_
    · refine E.m (h.iconst (v := (1 : Int32)) dX11_play_39 (by decide)) ?_
      refine E.m (h.goto (tgt := 44) dX11_play_40 (by decide)) ?_
      refine E.m (h.sub [1, 0] rfl) ?_
      exact hJ44 _ _
    · refine E.m (h.sub [1, 0] rfl) ?_
      exact hJ43 _
def l_X11_aStep_69 (t : Nat) (J113 : Mem → Option (Unit × Mem)) (M11 : Mem) : Option ((Mem) ⊕ (Unit × Mem)) :=
  if (M11.1 (t + 8) 23) < (1000 : Int32) then (up (J113 M11)) else (if (M11.1 (t + 8) 8) = (2 : Int32) then (nm (wi M11 (t + 8) 23 ((M11.1 (t + 8) 23) - (1000 : Int32))) (fun M12 => bd (f_X11_play t M12) (fun _ M14 => some (.inl M14)))) else (up (J113 M11)))
def f_X11_aStep (t : Nat) (M : Mem) : Option (Unit × Mem) :=
  bd (f_X11_makeOctets t M) (fun _ M2 => bd (f_X11_receive t M2) (fun _ M4 => bd (f_X11_steer t M4) (fun _ M6 => jn1 (fun M7 => nm (wi M7 (t + 8) 0 ((M7.1 (t + 8) 0) + (1 : Int32))) (fun M8 => some ((), M8))) (fun J113 => if (M6.1 (t + 8) 8) = (2 : Int32) then (nm (wi M6 (t + 8) 23 ((M6.1 (t + 8) 23) + ((1000 : Int32) + (M6.1 (t + 8) 9)))) (fun M9 => nm (wi M9 (t + 8) 11 ((M9.1 (t + 8) 11) + ((M9.1 (t + 8) 27) - (M9.1 (t + 8) 9)))) (fun M10 => lop1 FU (l_X11_aStep_69 t J113) M10))) else (J113 M6)))))
set_option maxRecDepth 20000 in
theorem c_X11_aStep {G : Ctx} (hW : WFG G) {t : Nat} {M M' : Mem} (h0 : hs G t (0, 11)) (hf : f_X11_aStep t M = some ((), M')) : Ct G yX11_aStep cX11_aStep 1 none 6 133 [.ref t] M none M' := by
  refine ct_v hW (by decide +kernel) (Nat.le_of_ble_eq_true rfl) (fun w h hr => ?_)
  have h : Rb G cX11_aStep RX11 1 6 133 w := h
  refine (?_ : E (fun q => q = ((), M')) (f_X11_aStep t M) (w M 0 [(0, .ref t)] [])) _ hf rfl
  unfold f_X11_aStep
  refine E.m (h.aload_n 0 dX11_aStep_0 rfl) ?_
  refine E.bnd (fun _ M2 => w M2 4 [(0, .ref t)] []) (fun _ M2 hf k => h.callV (As := []) (rest := []) (c_X11_makeOctets hW h0 hf) lm_X11_makeOctets lv_m_X11_makeOctets ll_RX11_337 h0 lc_11 rfl rfl (Nat.le_of_ble_eq_true rfl) (by decide) dX11_aStep_1 rfl k) (fun _ M2 => ?_)
  refine E.m (h.aload_n 0 dX11_aStep_4 rfl) ?_
  refine E.bnd (fun _ M4 => w M4 8 [(0, .ref t)] []) (fun _ M4 hf k => h.callV (As := []) (rest := []) (c_X11_receive hW h0 hf) lm_X11_receive lv_m_X11_receive ll_RX11_340 h0 lc_11 rfl rfl (Nat.le_of_ble_eq_true rfl) (by decide) dX11_aStep_5 rfl k) (fun _ M4 => ?_)
  refine E.m (h.aload_n 0 dX11_aStep_8 rfl) ?_
  refine E.bnd (fun _ M6 => w M6 12 [(0, .ref t)] []) (fun _ M6 hf k => h.callV (As := []) (rest := []) (c_X11_steer hW h0 hf) lm_X11_steer lv_m_X11_steer ll_RX11_343 h0 lc_11 rfl rfl (Nat.le_of_ble_eq_true rfl) (by decide) dX11_aStep_9 rfl k) (fun _ M6 => ?_)
  refine E.m (h.aload_n 0 dX11_aStep_12 rfl) ?_
  refine E.m (h.get h0 lf_RX11_59 dX11_aStep_13 fv_11_8) ?_
  refine E.m (h.bipush (v := (8 : Int32)) dX11_aStep_16 (by decide)) ?_
  refine E.m (h.ialdk (k := 8) (hW.clo 47 h0 rfl) (by decide) rfl dX11_aStep_18) ?_
  refine E.m (h.iconst (v := (2 : Int32)) dX11_aStep_19 (by decide)) ?_
  refine E.join1 (fun M7 => w M7 113 [(0, .ref t)] []) (fun M7 => ?_) (fun J113 hJ113 => ?_)
  · refine E.m (h.aload_n 0 dX11_aStep_113 rfl) ?_
    refine E.m (h.get h0 lf_RX11_59 dX11_aStep_114 fv_11_8) ?_
    refine E.m (h.iconst (v := (0 : Int32)) dX11_aStep_117 (by decide)) ?_
    refine E.m (h.dup2 dX11_aStep_118 rfl rfl) ?_
    refine E.m (h.ialdk (k := 0) (hW.clo 47 h0 rfl) (by decide) rfl dX11_aStep_119) ?_
    refine E.m (h.iconst (v := (1 : Int32)) dX11_aStep_120 (by decide)) ?_
    refine E.m (h.iadd dX11_aStep_121) ?_
    refine E.m (h.iastk (k := 0) (hW.clo 47 h0 rfl) (by decide) rfl dX11_aStep_122) ?_
    refine E.nmM (fun M8 => ?_)
    exact E.some (ret_v hr dX11_aStep_123)
  refine E.br (fun k1 k2 => h.icmp_ne (tgt := 113) dX11_aStep_20 (by decide) k2 k1) ?_ ?_
  · refine E.m (h.aload_n 0 dX11_aStep_23 rfl) ?_
    refine E.m (h.get h0 lf_RX11_59 dX11_aStep_24 fv_11_8) ?_
    refine E.m (h.bipush (v := (23 : Int32)) dX11_aStep_27 (by decide)) ?_
    refine E.m (h.dup2 dX11_aStep_29 rfl rfl) ?_
    refine E.m (h.ialdk (k := 23) (hW.clo 47 h0 rfl) (by decide) rfl dX11_aStep_30) ?_
    refine E.m (h.sipush (v := (1000 : Int32)) dX11_aStep_31 (by decide)) ?_
    refine E.m (h.aload_n 0 dX11_aStep_34 rfl) ?_
    refine E.m (h.get h0 lf_RX11_59 dX11_aStep_35 fv_11_8) ?_
    refine E.m (h.bipush (v := (9 : Int32)) dX11_aStep_38 (by decide)) ?_
    refine E.m (h.ialdk (k := 9) (hW.clo 47 h0 rfl) (by decide) rfl dX11_aStep_40) ?_
    refine E.m (h.iadd dX11_aStep_41) ?_
    refine E.m (h.iadd dX11_aStep_42) ?_
    refine E.m (h.iastk (k := 23) (hW.clo 47 h0 rfl) (by decide) rfl dX11_aStep_43) ?_
    refine E.nmM (fun M9 => ?_)
    refine E.m (h.aload_n 0 dX11_aStep_44 rfl) ?_
    refine E.m (h.get h0 lf_RX11_59 dX11_aStep_45 fv_11_8) ?_
    refine E.m (h.bipush (v := (11 : Int32)) dX11_aStep_48 (by decide)) ?_
    refine E.m (h.dup2 dX11_aStep_50 rfl rfl) ?_
    refine E.m (h.ialdk (k := 11) (hW.clo 47 h0 rfl) (by decide) rfl dX11_aStep_51) ?_
    refine E.m (h.aload_n 0 dX11_aStep_52 rfl) ?_
    refine E.m (h.get h0 lf_RX11_59 dX11_aStep_53 fv_11_8) ?_
    refine E.m (h.bipush (v := (27 : Int32)) dX11_aStep_56 (by decide)) ?_
    refine E.m (h.ialdk (k := 27) (hW.clo 47 h0 rfl) (by decide) rfl dX11_aStep_58) ?_
    refine E.m (h.aload_n 0 dX11_aStep_59 rfl) ?_
    refine E.m (h.get h0 lf_RX11_59 dX11_aStep_60 fv_11_8) ?_
    refine E.m (h.bipush (v := (9 : Int32)) dX11_aStep_63 (by decide)) ?_
    refine E.m (h.ialdk (k := 9) (hW.clo 47 h0 rfl) (by decide) rfl dX11_aStep_65) ?_
    refine E.m (h.isub dX11_aStep_66) ?_
    refine E.m (h.iadd dX11_aStep_67) ?_
    refine E.m (h.iastk (k := 11) (hW.clo 47 h0 rfl) (by decide) rfl dX11_aStep_68) ?_
    refine E.nmM (fun M10 => ?_)
    refine E.loop1 (fun M11 => w M11 69 [(0, .ref t)] []) (fun M11 => ?_) _ _
    unfold l_X11_aStep_69
    refine E.m (h.aload_n 0 dX11_aStep_69 rfl) ?_
    refine E.m (h.get h0 lf_RX11_59 dX11_aStep_70 fv_11_8) ?_
    refine E.m (h.bipush (v := (23 : Int32)) dX11_aStep_73 (by decide)) ?_
    refine E.m (h.ialdk (k := 23) (hW.clo 47 h0 rfl) (by decide) rfl dX11_aStep_75) ?_
    refine E.m (h.sipush (v := (1000 : Int32)) dX11_aStep_76 (by decide)) ?_
    refine E.br (fun k1 k2 => h.icmp_lt (tgt := 113) dX11_aStep_79 (by decide) k1 k2) ?_ ?_
    · exact E.up (fun _ q => q) (hJ113 _)
    · refine E.m (h.aload_n 0 dX11_aStep_82 rfl) ?_
      refine E.m (h.get h0 lf_RX11_59 dX11_aStep_83 fv_11_8) ?_
      refine E.m (h.bipush (v := (8 : Int32)) dX11_aStep_86 (by decide)) ?_
      refine E.m (h.ialdk (k := 8) (hW.clo 47 h0 rfl) (by decide) rfl dX11_aStep_88) ?_
      refine E.m (h.iconst (v := (2 : Int32)) dX11_aStep_89 (by decide)) ?_
      refine E.br (fun k1 k2 => h.icmp_ne (tgt := 113) dX11_aStep_90 (by decide) k2 k1) ?_ ?_
      · refine E.m (h.aload_n 0 dX11_aStep_93 rfl) ?_
        refine E.m (h.get h0 lf_RX11_59 dX11_aStep_94 fv_11_8) ?_
        refine E.m (h.bipush (v := (23 : Int32)) dX11_aStep_97 (by decide)) ?_
        refine E.m (h.dup2 dX11_aStep_99 rfl rfl) ?_
        refine E.m (h.ialdk (k := 23) (hW.clo 47 h0 rfl) (by decide) rfl dX11_aStep_100) ?_
        refine E.m (h.sipush (v := (1000 : Int32)) dX11_aStep_101 (by decide)) ?_
        refine E.m (h.isub dX11_aStep_104) ?_
        refine E.m (h.iastk (k := 23) (hW.clo 47 h0 rfl) (by decide) rfl dX11_aStep_105) ?_
        refine E.nmM (fun M12 => ?_)
        refine E.m (h.aload_n 0 dX11_aStep_106 rfl) ?_
        refine E.bnd (fun _ M14 => w M14 110 [(0, .ref t)] []) (fun _ M14 hf k => h.callV (As := []) (rest := []) (c_X11_play hW h0 hf) lm_X11_play lv_m_X11_play ll_RX11_346 h0 lc_11 rfl rfl (Nat.le_of_ble_eq_true rfl) (by decide) dX11_aStep_107 rfl k) (fun _ M14 => ?_)
        refine E.m (h.goto (tgt := 69) dX11_aStep_110 (by decide)) ?_
        exact E.some (fun q => q)
      · exact E.up (fun _ q => q) (hJ113 _)
  · exact hJ113 _
def l_X11_goOn_2 (t : Nat) (x1_ : Int32) (k1 : Int32) (M2 : Mem) : Option ((Int32 × Mem) ⊕ (Unit × Mem)) :=
  if x1_ ≤ k1 then (some (.inr ((), M2))) else (bd (f_X11_aStep t M2) (fun _ M4 => nm (k1 + (1 : Int32)) (fun y5 => some (.inl (y5, M4)))))
def f_X11_goOn (t : Nat) (x1_ : Int32) (M : Mem) : Option (Unit × Mem) :=
  lop2 FU (l_X11_goOn_2 t x1_) (0 : Int32) M
set_option maxRecDepth 20000 in
theorem c_X11_goOn {G : Ctx} (hW : WFG G) {t : Nat} {x1_ : Int32} {M M' : Mem} (h0 : hs G t (0, 11)) (hf : f_X11_goOn t x1_ M = some ((), M')) : Ct G yX11_goOn cX11_goOn 3 none 7 153 [.ref t, .int x1_] M none M' := by
  refine ct_v hW (by decide +kernel) (Nat.le_of_ble_eq_true rfl) (fun w h hr => ?_)
  have h : Rb G cX11_goOn RX11 3 7 153 w := h
  refine (?_ : E (fun q => q = ((), M')) (f_X11_goOn t x1_ M) (w M 0 [(0, .ref t), (1, .int x1_)] [])) _ hf rfl
  unfold f_X11_goOn
  refine E.m (h.iconst (v := (0 : Int32)) dX11_goOn_0 (by decide)) ?_
  refine E.m (h.istore_n dX11_goOn_1 (by decide) rfl) ?_
  refine E.m (h.sub [1, 2, 0] rfl) ?_
  refine E.loop2 (fun k1 M2 => w M2 2 [(0, .ref t), (1, .int x1_), (2, .int k1)] []) (fun k1 M2 => ?_) _ _ _
  unfold l_X11_goOn_2
  refine E.m (h.iload_n 2 dX11_goOn_2 rfl) ?_
  refine E.m (h.iload_n 1 dX11_goOn_3 rfl) ?_
  refine E.br (fun k1 k2 => h.icmp_ge (tgt := 17) dX11_goOn_4 (by decide) k1 k2) ?_ ?_
  · exact E.some (ret_v hr dX11_goOn_17)
  · refine E.m (h.aload_n 0 dX11_goOn_7 rfl) ?_
    refine E.bnd (fun _ M4 => w M4 11 [(0, .ref t), (1, .int x1_), (2, .int k1)] []) (fun _ M4 hf k => h.callV (As := []) (rest := []) (c_X11_aStep hW h0 hf) lm_X11_aStep lv_m_X11_aStep ll_RX11_349 h0 lc_11 rfl rfl (Nat.le_of_ble_eq_true rfl) (by decide) dX11_goOn_8 rfl k) (fun _ M4 => ?_)
    refine E.m (h.iinc (v := (1 : Int32)) 2 dX11_goOn_11 rfl (by decide) (by decide) rfl) ?_
    refine E.nmL (fun y5 => ?_)
    refine E.m (h.goto (tgt := 2) dX11_goOn_14 (by decide)) ?_
    refine E.m (h.sub [1, 2, 0] rfl) ?_
    exact E.some (fun q => q)
def f_X11_regained (t : Nat) (M : Mem) : Option (Int32 × Mem) :=
  jn1 (fun z1 => some (z1, M)) (fun J56 => jn0 (fun _ => J56 (10000 : Int32)) (fun J20 => if (M.1 (t + 8) 8) = 0 then (J20 ()) else (if (M.1 (t + 8) 20) = 0 then (J20 ()) else (gdp (¬ (M.1 (t + 8) 20) = 0) (J56 (((((1000 : Int32) * (M.1 (t + 3) 0)) * (M.1 (t + 8) 21)) / (M.1 (t + 8) 20)) - (1000 : Int32)))))))
set_option maxRecDepth 20000 in
theorem c_X11_regained {G : Ctx} (hW : WFG G) {t : Nat} {M M' : Mem} {r : Int32} (h0 : hs G t (0, 11)) (hf : f_X11_regained t M = some (r, M')) : Ct G yX11_regained cX11_regained 1 (some .int) 0 0 [.ref t] M (some (.int r)) M' := by
  refine ct_i hW (by decide +kernel) (Nat.le_of_ble_eq_true rfl) (fun w h hr => ?_)
  have h : Rb G cX11_regained RX11 1 0 0 w := h
  refine (?_ : E (fun q => q = (r, M')) (f_X11_regained t M) (w M 0 [(0, .ref t)] [])) _ hf rfl
  unfold f_X11_regained
  refine E.m (h.aload_n 0 dX11_regained_0 rfl) ?_
  refine E.m (h.get h0 lf_RX11_59 dX11_regained_1 fv_11_8) ?_
  refine E.m (h.bipush (v := (8 : Int32)) dX11_regained_4 (by decide)) ?_
  refine E.m (h.ialdk (k := 8) (hW.clo 47 h0 rfl) (by decide) rfl dX11_regained_6) ?_
  refine E.join1 (fun z1 => w M 56 [(0, .ref t)] [.int z1]) (fun z1 => ?_) (fun J56 hJ56 => ?_)
  · exact E.some (ret_i hr rfl dX11_regained_56)
  refine E.join0 (fun _ => w M 20 [(0, .ref t)] []) (fun _ => ?_) (fun J20 hJ20 => ?_)
  · refine E.m (h.sipush (v := (10000 : Int32)) dX11_regained_20 (by decide)) ?_
    refine E.m (h.goto (tgt := 56) dX11_regained_23 (by decide)) ?_
    exact hJ56 _
  refine E.br (fun k1 k2 => h.if_eq (tgt := 20) dX11_regained_7 (by decide) k1 k2) ?_ ?_
  · exact hJ20 ()
  · refine E.m (h.aload_n 0 dX11_regained_10 rfl) ?_
    refine E.m (h.get h0 lf_RX11_59 dX11_regained_11 fv_11_8) ?_
    refine E.m (h.bipush (v := (20 : Int32)) dX11_regained_14 (by decide)) ?_
    refine E.m (h.ialdk (k := 20) (hW.clo 47 h0 rfl) (by decide) rfl dX11_regained_16) ?_
    refine E.br (fun k1 k2 => h.if_ne (tgt := 26) dX11_regained_17 (by decide) k2 k1) ?_ ?_
    · exact hJ20 ()
    · refine E.m (h.sipush (v := (1000 : Int32)) dX11_regained_26 (by decide)) ?_
      refine E.m (h.aload_n 0 dX11_regained_29 rfl) ?_
      refine E.m (h.get h0 lf_RX11_44 dX11_regained_30 fv_11_3) ?_
      refine E.m (h.iconst (v := (0 : Int32)) dX11_regained_33 (by decide)) ?_
      refine E.m (h.ialdk (k := 0) (hW.clo 42 h0 rfl) (by decide) rfl dX11_regained_34) ?_
      refine E.m (h.imul dX11_regained_35) ?_
      refine E.m (h.aload_n 0 dX11_regained_36 rfl) ?_
      refine E.m (h.get h0 lf_RX11_59 dX11_regained_37 fv_11_8) ?_
      refine E.m (h.bipush (v := (21 : Int32)) dX11_regained_40 (by decide)) ?_
      refine E.m (h.ialdk (k := 21) (hW.clo 47 h0 rfl) (by decide) rfl dX11_regained_42) ?_
      refine E.m (h.imul dX11_regained_43) ?_
      refine E.m (h.aload_n 0 dX11_regained_44 rfl) ?_
      refine E.m (h.get h0 lf_RX11_59 dX11_regained_45 fv_11_8) ?_
      refine E.m (h.bipush (v := (20 : Int32)) dX11_regained_48 (by decide)) ?_
      refine E.m (h.ialdk (k := 20) (hW.clo 47 h0 rfl) (by decide) rfl dX11_regained_50) ?_
      refine E.gd (fun hc k => h.idiv hc dX11_regained_51 k) (fun _ => ?_)
      refine E.m (h.sipush (v := (1000 : Int32)) dX11_regained_52 (by decide)) ?_
      refine E.m (h.isub dX11_regained_55) ?_
      exact hJ56 _
def f_X11_samplesKept (t : Nat) (M : Mem) : Option (Int32 × Mem) :=
  bd (f_J9_min_7cf53 (128 : Int32) (M.1 (t + 8) 32) M) (fun u1 M2 => some (u1, M2))
set_option maxRecDepth 20000 in
theorem c_X11_samplesKept {G : Ctx} (hW : WFG G) {t : Nat} {M M' : Mem} {r : Int32} (h0 : hs G t (0, 11)) (hf : f_X11_samplesKept t M = some (r, M')) : Ct G yX11_samplesKept cX11_samplesKept 1 (some .int) 1 21 [.ref t] M (some (.int r)) M' := by
  refine ct_i hW (by decide +kernel) (Nat.le_of_ble_eq_true rfl) (fun w h hr => ?_)
  have h : Rb G cX11_samplesKept RX11 1 1 21 w := h
  refine (?_ : E (fun q => q = (r, M')) (f_X11_samplesKept t M) (w M 0 [(0, .ref t)] [])) _ hf rfl
  unfold f_X11_samplesKept
  refine E.m (h.sipush (v := (128 : Int32)) dX11_samplesKept_0 (by decide)) ?_
  refine E.m (h.aload_n 0 dX11_samplesKept_3 rfl) ?_
  refine E.m (h.get h0 lf_RX11_59 dX11_samplesKept_4 fv_11_8) ?_
  refine E.m (h.bipush (v := (32 : Int32)) dX11_samplesKept_7 (by decide)) ?_
  refine E.m (h.ialdk (k := 32) (hW.clo 47 h0 rfl) (by decide) rfl dX11_samplesKept_9) ?_
  refine E.bnd (fun u1 M2 => w M2 13 [(0, .ref t)] [.int u1]) (fun u1 M2 hf k => h.callS (As := [.int (128 : Int32), .int (M.1 (t + 8) 32)]) (rest := []) (c_J9_min_7cf53 hW hf) lm_J9_min_7cf53 ls_m_J9_min_7cf53 ll_RX11_124 rfl rfl (Nat.le_of_ble_eq_true rfl) (by decide) dX11_samplesKept_10 rfl k) (fun u1 M2 => ?_)
  exact E.some (ret_i hr rfl dX11_samplesKept_13)
def f_X11_playedKept (t : Nat) (M : Mem) : Option (Int32 × Mem) :=
  bd (f_J9_min_7cf53 (128 : Int32) (M.1 (t + 8) 6) M) (fun u1 M2 => some (u1, M2))
set_option maxRecDepth 20000 in
theorem c_X11_playedKept {G : Ctx} (hW : WFG G) {t : Nat} {M M' : Mem} {r : Int32} (h0 : hs G t (0, 11)) (hf : f_X11_playedKept t M = some (r, M')) : Ct G yX11_playedKept cX11_playedKept 1 (some .int) 1 21 [.ref t] M (some (.int r)) M' := by
  refine ct_i hW (by decide +kernel) (Nat.le_of_ble_eq_true rfl) (fun w h hr => ?_)
  have h : Rb G cX11_playedKept RX11 1 1 21 w := h
  refine (?_ : E (fun q => q = (r, M')) (f_X11_playedKept t M) (w M 0 [(0, .ref t)] [])) _ hf rfl
  unfold f_X11_playedKept
  refine E.m (h.sipush (v := (128 : Int32)) dX11_playedKept_0 (by decide)) ?_
  refine E.m (h.aload_n 0 dX11_playedKept_3 rfl) ?_
  refine E.m (h.get h0 lf_RX11_59 dX11_playedKept_4 fv_11_8) ?_
  refine E.m (h.bipush (v := (6 : Int32)) dX11_playedKept_7 (by decide)) ?_
  refine E.m (h.ialdk (k := 6) (hW.clo 47 h0 rfl) (by decide) rfl dX11_playedKept_9) ?_
  refine E.bnd (fun u1 M2 => w M2 13 [(0, .ref t)] [.int u1]) (fun u1 M2 hf k => h.callS (As := [.int (128 : Int32), .int (M.1 (t + 8) 6)]) (rest := []) (c_J9_min_7cf53 hW hf) lm_J9_min_7cf53 ls_m_J9_min_7cf53 ll_RX11_124 rfl rfl (Nat.le_of_ble_eq_true rfl) (by decide) dX11_playedKept_10 rfl k) (fun u1 M2 => ?_)
  exact E.some (ret_i hr rfl dX11_playedKept_13)
def f_X11_count (t : Nat) (x1_ : Int32) (M : Mem) : Option (Int32 × Mem) :=
  bd (f_X11_ready t M) (fun _ M2 => jn0 (fun _ => gdi (x1_ - (20 : Int32)) 3 (some (M2.1 (t + 7) (x1_ - (20 : Int32)).toNatClampNeg, M2))) (fun J248 => if x1_.toInt < 0 ∨ 22 < x1_.toInt then (bd (f_X11_fail t (1 : Int32) M2) (fun u3 M4 => some (u3, M4))) else if x1_ = (0 : Int32) then (some (M2.1 (t + 8) 0, M2)) else if x1_ = (1 : Int32) then (some (M2.1 (t + 8) 1, M2)) else if x1_ = (2 : Int32) then (some (M2.1 (t + 8) 2, M2)) else if x1_ = (3 : Int32) then (some (M2.1 (t + 8) 3, M2)) else if x1_ = (4 : Int32) then (some (M2.1 (t + 8) 31, M2)) else if x1_ = (5 : Int32) then (some (M2.1 (t + 8) 4, M2)) else if x1_ = (6 : Int32) then (some (M2.1 (t + 8) 5, M2)) else if x1_ = (7 : Int32) then (some (M2.1 (t + 8) 6, M2)) else if x1_ = (8 : Int32) then (some (M2.1 (t + 8) 7, M2)) else if x1_ = (9 : Int32) then (bd (f_X11_levelNow t M2) (fun u5 M6 => some (u5, M6))) else if x1_ = (10 : Int32) then (some (M2.1 (t + 8) 8, M2)) else if x1_ = (11 : Int32) then (some (M2.1 (t + 8) 9, M2)) else if x1_ = (12 : Int32) then (some (M2.1 (t + 8) 10, M2)) else if x1_ = (13 : Int32) then (bd (f_X11_regained t M2) (fun u7 M8 => some (u7, M8))) else if x1_ = (14 : Int32) then (some (M2.1 (t + 8) 12, M2)) else if x1_ = (15 : Int32) then (some (M2.1 (t + 8) 13, M2)) else if x1_ = (16 : Int32) then (bd (f_X11_samplesKept t M2) (fun u9 M10 => some (u9, M10))) else if x1_ = (17 : Int32) then (some (M2.1 t 31, M2)) else if x1_ = (18 : Int32) then (some (M2.1 t 32, M2)) else if x1_ = (19 : Int32) then (some (M2.1 t 12, M2)) else if x1_ = (20 : Int32) then (J248 ()) else if x1_ = (21 : Int32) then (J248 ()) else if x1_ = (22 : Int32) then (J248 ()) else none))
set_option maxRecDepth 20000 in
theorem c_X11_count {G : Ctx} (hW : WFG G) {t : Nat} {x1_ : Int32} {M M' : Mem} {r : Int32} (h0 : hs G t (0, 11)) (hf : f_X11_count t x1_ M = some (r, M')) : Ct G yX11_count cX11_count 2 (some .int) 3 62 [.ref t, .int x1_] M (some (.int r)) M' := by
  refine ct_i hW (by decide +kernel) (Nat.le_of_ble_eq_true rfl) (fun w h hr => ?_)
  have h : Rb G cX11_count RX11 2 3 62 w := h
  refine (?_ : E (fun q => q = (r, M')) (f_X11_count t x1_ M) (w M 0 [(0, .ref t), (1, .int x1_)] [])) _ hf rfl
  unfold f_X11_count
  refine E.m (h.aload_n 0 dX11_count_0 rfl) ?_
  refine E.bnd (fun _ M2 => w M2 4 [(0, .ref t), (1, .int x1_)] []) (fun _ M2 hf k => h.callV (As := []) (rest := []) (c_X11_ready hW h0 hf) lm_X11_ready lv_m_X11_ready ll_RX11_247 h0 lc_11 rfl rfl (Nat.le_of_ble_eq_true rfl) (by decide) dX11_count_1 rfl k) (fun _ M2 => ?_)
  refine E.m (h.iload_n 1 dX11_count_4 rfl) ?_
  refine E.join0 (fun _ => w M2 248 [(0, .ref t), (1, .int x1_)] []) (fun _ => ?_) (fun J248 hJ248 => ?_)
  · refine E.m (h.aload_n 0 dX11_count_248 rfl) ?_
    refine E.m (h.get h0 lf_RX11_56 dX11_count_249 fv_11_7) ?_
    refine E.m (h.iload_n 1 dX11_count_252 rfl) ?_
    refine E.m (h.bipush (v := (20 : Int32)) dX11_count_253 (by decide)) ?_
    refine E.m (h.isub dX11_count_255) ?_
    refine E.gi (fun hi k => h.iald (hW.clo 46 h0 rfl) hi dX11_count_256 k) ?_
    exact E.some (ret_i hr rfl dX11_count_257)
  refine E.sw (fun hc k => h.tabOut (tgt := 258) dX11_count_5 hc (by decide) k) ?_ (fun hn => ?_)
  · refine E.m (h.aload_n 0 dX11_count_258 rfl) ?_
    refine E.m (h.iconst (v := (1 : Int32)) dX11_count_259 (by decide)) ?_
    refine E.bnd (fun u3 M4 => w M4 263 [(0, .ref t), (1, .int x1_)] [.int u3]) (fun u3 M4 hf k => h.callV (As := [.int (1 : Int32)]) (rest := []) (c_X11_fail hW h0 hf) lm_X11_fail lv_m_X11_fail ll_RX11_250 h0 lc_11 rfl rfl (Nat.le_of_ble_eq_true rfl) (by decide) dX11_count_260 rfl k) (fun u3 M4 => ?_)
    exact E.some (ret_i hr rfl dX11_count_263)
  refine E.sw (fun hc k => h.tabIn (tgt := 112) dX11_count_5 (by rw [hc]; decide) (by rw [hc]; decide) (by rw [hc]; rfl) (by decide) k) ?_ (fun _ => ?_)
  · refine E.m (h.aload_n 0 dX11_count_112 rfl) ?_
    refine E.m (h.get h0 lf_RX11_59 dX11_count_113 fv_11_8) ?_
    refine E.m (h.iconst (v := (0 : Int32)) dX11_count_116 (by decide)) ?_
    refine E.m (h.ialdk (k := 0) (hW.clo 47 h0 rfl) (by decide) rfl dX11_count_117) ?_
    exact E.some (ret_i hr rfl dX11_count_118)
  refine E.sw (fun hc k => h.tabIn (tgt := 119) dX11_count_5 (by rw [hc]; decide) (by rw [hc]; decide) (by rw [hc]; rfl) (by decide) k) ?_ (fun _ => ?_)
  · refine E.m (h.aload_n 0 dX11_count_119 rfl) ?_
    refine E.m (h.get h0 lf_RX11_59 dX11_count_120 fv_11_8) ?_
    refine E.m (h.iconst (v := (1 : Int32)) dX11_count_123 (by decide)) ?_
    refine E.m (h.ialdk (k := 1) (hW.clo 47 h0 rfl) (by decide) rfl dX11_count_124) ?_
    exact E.some (ret_i hr rfl dX11_count_125)
  refine E.sw (fun hc k => h.tabIn (tgt := 126) dX11_count_5 (by rw [hc]; decide) (by rw [hc]; decide) (by rw [hc]; rfl) (by decide) k) ?_ (fun _ => ?_)
  · refine E.m (h.aload_n 0 dX11_count_126 rfl) ?_
    refine E.m (h.get h0 lf_RX11_59 dX11_count_127 fv_11_8) ?_
    refine E.m (h.iconst (v := (2 : Int32)) dX11_count_130 (by decide)) ?_
    refine E.m (h.ialdk (k := 2) (hW.clo 47 h0 rfl) (by decide) rfl dX11_count_131) ?_
    exact E.some (ret_i hr rfl dX11_count_132)
  refine E.sw (fun hc k => h.tabIn (tgt := 133) dX11_count_5 (by rw [hc]; decide) (by rw [hc]; decide) (by rw [hc]; rfl) (by decide) k) ?_ (fun _ => ?_)
  · refine E.m (h.aload_n 0 dX11_count_133 rfl) ?_
    refine E.m (h.get h0 lf_RX11_59 dX11_count_134 fv_11_8) ?_
    refine E.m (h.iconst (v := (3 : Int32)) dX11_count_137 (by decide)) ?_
    refine E.m (h.ialdk (k := 3) (hW.clo 47 h0 rfl) (by decide) rfl dX11_count_138) ?_
    exact E.some (ret_i hr rfl dX11_count_139)
  refine E.sw (fun hc k => h.tabIn (tgt := 140) dX11_count_5 (by rw [hc]; decide) (by rw [hc]; decide) (by rw [hc]; rfl) (by decide) k) ?_ (fun _ => ?_)
  · refine E.m (h.aload_n 0 dX11_count_140 rfl) ?_
    refine E.m (h.get h0 lf_RX11_59 dX11_count_141 fv_11_8) ?_
    refine E.m (h.bipush (v := (31 : Int32)) dX11_count_144 (by decide)) ?_
    refine E.m (h.ialdk (k := 31) (hW.clo 47 h0 rfl) (by decide) rfl dX11_count_146) ?_
    exact E.some (ret_i hr rfl dX11_count_147)
  refine E.sw (fun hc k => h.tabIn (tgt := 148) dX11_count_5 (by rw [hc]; decide) (by rw [hc]; decide) (by rw [hc]; rfl) (by decide) k) ?_ (fun _ => ?_)
  · refine E.m (h.aload_n 0 dX11_count_148 rfl) ?_
    refine E.m (h.get h0 lf_RX11_59 dX11_count_149 fv_11_8) ?_
    refine E.m (h.iconst (v := (4 : Int32)) dX11_count_152 (by decide)) ?_
    refine E.m (h.ialdk (k := 4) (hW.clo 47 h0 rfl) (by decide) rfl dX11_count_153) ?_
    exact E.some (ret_i hr rfl dX11_count_154)
  refine E.sw (fun hc k => h.tabIn (tgt := 155) dX11_count_5 (by rw [hc]; decide) (by rw [hc]; decide) (by rw [hc]; rfl) (by decide) k) ?_ (fun _ => ?_)
  · refine E.m (h.aload_n 0 dX11_count_155 rfl) ?_
    refine E.m (h.get h0 lf_RX11_59 dX11_count_156 fv_11_8) ?_
    refine E.m (h.iconst (v := (5 : Int32)) dX11_count_159 (by decide)) ?_
    refine E.m (h.ialdk (k := 5) (hW.clo 47 h0 rfl) (by decide) rfl dX11_count_160) ?_
    exact E.some (ret_i hr rfl dX11_count_161)
  refine E.sw (fun hc k => h.tabIn (tgt := 162) dX11_count_5 (by rw [hc]; decide) (by rw [hc]; decide) (by rw [hc]; rfl) (by decide) k) ?_ (fun _ => ?_)
  · refine E.m (h.aload_n 0 dX11_count_162 rfl) ?_
    refine E.m (h.get h0 lf_RX11_59 dX11_count_163 fv_11_8) ?_
    refine E.m (h.bipush (v := (6 : Int32)) dX11_count_166 (by decide)) ?_
    refine E.m (h.ialdk (k := 6) (hW.clo 47 h0 rfl) (by decide) rfl dX11_count_168) ?_
    exact E.some (ret_i hr rfl dX11_count_169)
  refine E.sw (fun hc k => h.tabIn (tgt := 170) dX11_count_5 (by rw [hc]; decide) (by rw [hc]; decide) (by rw [hc]; rfl) (by decide) k) ?_ (fun _ => ?_)
  · refine E.m (h.aload_n 0 dX11_count_170 rfl) ?_
    refine E.m (h.get h0 lf_RX11_59 dX11_count_171 fv_11_8) ?_
    refine E.m (h.bipush (v := (7 : Int32)) dX11_count_174 (by decide)) ?_
    refine E.m (h.ialdk (k := 7) (hW.clo 47 h0 rfl) (by decide) rfl dX11_count_176) ?_
    exact E.some (ret_i hr rfl dX11_count_177)
  refine E.sw (fun hc k => h.tabIn (tgt := 178) dX11_count_5 (by rw [hc]; decide) (by rw [hc]; decide) (by rw [hc]; rfl) (by decide) k) ?_ (fun _ => ?_)
  · refine E.m (h.aload_n 0 dX11_count_178 rfl) ?_
    refine E.bnd (fun u5 M6 => w M6 182 [(0, .ref t), (1, .int x1_)] [.int u5]) (fun u5 M6 hf k => h.callV (As := []) (rest := []) (c_X11_levelNow hW h0 hf) lm_X11_levelNow lv_m_X11_levelNow ll_RX11_325 h0 lc_11 rfl rfl (Nat.le_of_ble_eq_true rfl) (by decide) dX11_count_179 rfl k) (fun u5 M6 => ?_)
    exact E.some (ret_i hr rfl dX11_count_182)
  refine E.sw (fun hc k => h.tabIn (tgt := 183) dX11_count_5 (by rw [hc]; decide) (by rw [hc]; decide) (by rw [hc]; rfl) (by decide) k) ?_ (fun _ => ?_)
  · refine E.m (h.aload_n 0 dX11_count_183 rfl) ?_
    refine E.m (h.get h0 lf_RX11_59 dX11_count_184 fv_11_8) ?_
    refine E.m (h.bipush (v := (8 : Int32)) dX11_count_187 (by decide)) ?_
    refine E.m (h.ialdk (k := 8) (hW.clo 47 h0 rfl) (by decide) rfl dX11_count_189) ?_
    exact E.some (ret_i hr rfl dX11_count_190)
  refine E.sw (fun hc k => h.tabIn (tgt := 191) dX11_count_5 (by rw [hc]; decide) (by rw [hc]; decide) (by rw [hc]; rfl) (by decide) k) ?_ (fun _ => ?_)
  · refine E.m (h.aload_n 0 dX11_count_191 rfl) ?_
    refine E.m (h.get h0 lf_RX11_59 dX11_count_192 fv_11_8) ?_
    refine E.m (h.bipush (v := (9 : Int32)) dX11_count_195 (by decide)) ?_
    refine E.m (h.ialdk (k := 9) (hW.clo 47 h0 rfl) (by decide) rfl dX11_count_197) ?_
    exact E.some (ret_i hr rfl dX11_count_198)
  refine E.sw (fun hc k => h.tabIn (tgt := 199) dX11_count_5 (by rw [hc]; decide) (by rw [hc]; decide) (by rw [hc]; rfl) (by decide) k) ?_ (fun _ => ?_)
  · refine E.m (h.aload_n 0 dX11_count_199 rfl) ?_
    refine E.m (h.get h0 lf_RX11_59 dX11_count_200 fv_11_8) ?_
    refine E.m (h.bipush (v := (10 : Int32)) dX11_count_203 (by decide)) ?_
    refine E.m (h.ialdk (k := 10) (hW.clo 47 h0 rfl) (by decide) rfl dX11_count_205) ?_
    exact E.some (ret_i hr rfl dX11_count_206)
  refine E.sw (fun hc k => h.tabIn (tgt := 207) dX11_count_5 (by rw [hc]; decide) (by rw [hc]; decide) (by rw [hc]; rfl) (by decide) k) ?_ (fun _ => ?_)
  · refine E.m (h.aload_n 0 dX11_count_207 rfl) ?_
    refine E.bnd (fun u7 M8 => w M8 211 [(0, .ref t), (1, .int x1_)] [.int u7]) (fun u7 M8 hf k => h.callV (As := []) (rest := []) (c_X11_regained hW h0 hf) lm_X11_regained lv_m_X11_regained ll_RX11_352 h0 lc_11 rfl rfl (Nat.le_of_ble_eq_true rfl) (by decide) dX11_count_208 rfl k) (fun u7 M8 => ?_)
    exact E.some (ret_i hr rfl dX11_count_211)
  refine E.sw (fun hc k => h.tabIn (tgt := 212) dX11_count_5 (by rw [hc]; decide) (by rw [hc]; decide) (by rw [hc]; rfl) (by decide) k) ?_ (fun _ => ?_)
  · refine E.m (h.aload_n 0 dX11_count_212 rfl) ?_
    refine E.m (h.get h0 lf_RX11_59 dX11_count_213 fv_11_8) ?_
    refine E.m (h.bipush (v := (12 : Int32)) dX11_count_216 (by decide)) ?_
    refine E.m (h.ialdk (k := 12) (hW.clo 47 h0 rfl) (by decide) rfl dX11_count_218) ?_
    exact E.some (ret_i hr rfl dX11_count_219)
  refine E.sw (fun hc k => h.tabIn (tgt := 220) dX11_count_5 (by rw [hc]; decide) (by rw [hc]; decide) (by rw [hc]; rfl) (by decide) k) ?_ (fun _ => ?_)
  · refine E.m (h.aload_n 0 dX11_count_220 rfl) ?_
    refine E.m (h.get h0 lf_RX11_59 dX11_count_221 fv_11_8) ?_
    refine E.m (h.bipush (v := (13 : Int32)) dX11_count_224 (by decide)) ?_
    refine E.m (h.ialdk (k := 13) (hW.clo 47 h0 rfl) (by decide) rfl dX11_count_226) ?_
    exact E.some (ret_i hr rfl dX11_count_227)
  refine E.sw (fun hc k => h.tabIn (tgt := 228) dX11_count_5 (by rw [hc]; decide) (by rw [hc]; decide) (by rw [hc]; rfl) (by decide) k) ?_ (fun _ => ?_)
  · refine E.m (h.aload_n 0 dX11_count_228 rfl) ?_
    refine E.bnd (fun u9 M10 => w M10 232 [(0, .ref t), (1, .int x1_)] [.int u9]) (fun u9 M10 hf k => h.callV (As := []) (rest := []) (c_X11_samplesKept hW h0 hf) lm_X11_samplesKept lv_m_X11_samplesKept ll_RX11_355 h0 lc_11 rfl rfl (Nat.le_of_ble_eq_true rfl) (by decide) dX11_count_229 rfl k) (fun u9 M10 => ?_)
    exact E.some (ret_i hr rfl dX11_count_232)
  refine E.sw (fun hc k => h.tabIn (tgt := 233) dX11_count_5 (by rw [hc]; decide) (by rw [hc]; decide) (by rw [hc]; rfl) (by decide) k) ?_ (fun _ => ?_)
  · refine E.m (h.aload_n 0 dX11_count_233 rfl) ?_
    refine E.m (h.get h0 lf_RX11_278 dX11_count_234 fv_11_31) ?_
    exact E.some (ret_i hr rfl dX11_count_237)
  refine E.sw (fun hc k => h.tabIn (tgt := 238) dX11_count_5 (by rw [hc]; decide) (by rw [hc]; decide) (by rw [hc]; rfl) (by decide) k) ?_ (fun _ => ?_)
  · refine E.m (h.aload_n 0 dX11_count_238 rfl) ?_
    refine E.m (h.get h0 lf_RX11_281 dX11_count_239 fv_11_32) ?_
    exact E.some (ret_i hr rfl dX11_count_242)
  refine E.sw (fun hc k => h.tabIn (tgt := 243) dX11_count_5 (by rw [hc]; decide) (by rw [hc]; decide) (by rw [hc]; rfl) (by decide) k) ?_ (fun _ => ?_)
  · refine E.m (h.aload_n 0 dX11_count_243 rfl) ?_
    refine E.m (h.get h0 lf_RX11_133 dX11_count_244 fv_11_12) ?_
    exact E.some (ret_i hr rfl dX11_count_247)
  refine E.sw (fun hc k => h.tabIn (tgt := 248) dX11_count_5 (by rw [hc]; decide) (by rw [hc]; decide) (by rw [hc]; rfl) (by decide) k) ?_ (fun _ => ?_)
  · exact hJ248 ()
  refine E.sw (fun hc k => h.tabIn (tgt := 248) dX11_count_5 (by rw [hc]; decide) (by rw [hc]; decide) (by rw [hc]; rfl) (by decide) k) ?_ (fun _ => ?_)
  · exact hJ248 ()
  refine E.sw (fun hc k => h.tabIn (tgt := 248) dX11_count_5 (by rw [hc]; decide) (by rw [hc]; decide) (by rw [hc]; rfl) (by decide) k) ?_ (fun _ => ?_)
  · exact hJ248 ()
  exact E.none
def f_X11_set (t : Nat) (x1_ : Int32) (M : Mem) : Option (Int32 × Mem) :=
  bd (f_X11_ready t M) (fun _ M2 => if x1_.toInt < 0 ∨ 14 < x1_.toInt then (bd (f_X11_fail t (1 : Int32) M2) (fun u3 M4 => some (u3, M4))) else if x1_ = (0 : Int32) then (some (M2.1 (t + 3) 0, M2)) else if x1_ = (1 : Int32) then (some (M2.1 (t + 8) 29, M2)) else if x1_ = (2 : Int32) then (some (M2.1 t 24, M2)) else if x1_ = (3 : Int32) then (some (M2.1 t 25, M2)) else if x1_ = (4 : Int32) then (some (M2.1 (t + 3) 4, M2)) else if x1_ = (5 : Int32) then (some (M2.1 (t + 8) 27, M2)) else if x1_ = (6 : Int32) then (some (M2.1 (t + 3) 6, M2)) else if x1_ = (7 : Int32) then (some (M2.1 (t + 3) 7, M2)) else if x1_ = (8 : Int32) then (some (M2.1 (t + 8) 28, M2)) else if x1_ = (9 : Int32) then (some (M2.1 (t + 8) 25, M2)) else if x1_ = (10 : Int32) then (some (M2.1 (t + 8) 26, M2)) else if x1_ = (11 : Int32) then (some (M2.1 (t + 8) 22, M2)) else if x1_ = (12 : Int32) then (some (M2.1 (t + 8) 23, M2)) else if x1_ = (13 : Int32) then (gdp (¬ ((64 : Int32) * (M2.1 (t + 3) 0)) = 0) (some ((M2.1 (t + 8) 14) - (M2.1 (t + 8) 14) / ((64 : Int32) * (M2.1 (t + 3) 0)) * ((64 : Int32) * (M2.1 (t + 3) 0)), M2))) else if x1_ = (14 : Int32) then (some (M2.1 (t + 8) 11, M2)) else none)
set_option maxRecDepth 20000 in
theorem c_X11_set {G : Ctx} (hW : WFG G) {t : Nat} {x1_ : Int32} {M M' : Mem} {r : Int32} (h0 : hs G t (0, 11)) (hf : f_X11_set t x1_ M = some (r, M')) : Ct G yX11_set cX11_set 2 (some .int) 3 62 [.ref t, .int x1_] M (some (.int r)) M' := by
  refine ct_i hW (by decide +kernel) (Nat.le_of_ble_eq_true rfl) (fun w h hr => ?_)
  have h : Rb G cX11_set RX11 2 3 62 w := h
  refine (?_ : E (fun q => q = (r, M')) (f_X11_set t x1_ M) (w M 0 [(0, .ref t), (1, .int x1_)] [])) _ hf rfl
  unfold f_X11_set
  refine E.m (h.aload_n 0 dX11_set_0 rfl) ?_
  refine E.bnd (fun _ M2 => w M2 4 [(0, .ref t), (1, .int x1_)] []) (fun _ M2 hf k => h.callV (As := []) (rest := []) (c_X11_ready hW h0 hf) lm_X11_ready lv_m_X11_ready ll_RX11_247 h0 lc_11 rfl rfl (Nat.le_of_ble_eq_true rfl) (by decide) dX11_set_1 rfl k) (fun _ M2 => ?_)
  refine E.m (h.iload_n 1 dX11_set_4 rfl) ?_
  refine E.sw (fun hc k => h.tabOut (tgt := 202) dX11_set_5 hc (by decide) k) ?_ (fun hn => ?_)
  · refine E.m (h.aload_n 0 dX11_set_202 rfl) ?_
    refine E.m (h.iconst (v := (1 : Int32)) dX11_set_203 (by decide)) ?_
    refine E.bnd (fun u3 M4 => w M4 207 [(0, .ref t), (1, .int x1_)] [.int u3]) (fun u3 M4 hf k => h.callV (As := [.int (1 : Int32)]) (rest := []) (c_X11_fail hW h0 hf) lm_X11_fail lv_m_X11_fail ll_RX11_250 h0 lc_11 rfl rfl (Nat.le_of_ble_eq_true rfl) (by decide) dX11_set_204 rfl k) (fun u3 M4 => ?_)
    exact E.some (ret_i hr rfl dX11_set_207)
  refine E.sw (fun hc k => h.tabIn (tgt := 80) dX11_set_5 (by rw [hc]; decide) (by rw [hc]; decide) (by rw [hc]; rfl) (by decide) k) ?_ (fun _ => ?_)
  · refine E.m (h.aload_n 0 dX11_set_80 rfl) ?_
    refine E.m (h.get h0 lf_RX11_44 dX11_set_81 fv_11_3) ?_
    refine E.m (h.iconst (v := (0 : Int32)) dX11_set_84 (by decide)) ?_
    refine E.m (h.ialdk (k := 0) (hW.clo 42 h0 rfl) (by decide) rfl dX11_set_85) ?_
    exact E.some (ret_i hr rfl dX11_set_86)
  refine E.sw (fun hc k => h.tabIn (tgt := 87) dX11_set_5 (by rw [hc]; decide) (by rw [hc]; decide) (by rw [hc]; rfl) (by decide) k) ?_ (fun _ => ?_)
  · refine E.m (h.aload_n 0 dX11_set_87 rfl) ?_
    refine E.m (h.get h0 lf_RX11_59 dX11_set_88 fv_11_8) ?_
    refine E.m (h.bipush (v := (29 : Int32)) dX11_set_91 (by decide)) ?_
    refine E.m (h.ialdk (k := 29) (hW.clo 47 h0 rfl) (by decide) rfl dX11_set_93) ?_
    exact E.some (ret_i hr rfl dX11_set_94)
  refine E.sw (fun hc k => h.tabIn (tgt := 95) dX11_set_5 (by rw [hc]; decide) (by rw [hc]; decide) (by rw [hc]; rfl) (by decide) k) ?_ (fun _ => ?_)
  · refine E.m (h.aload_n 0 dX11_set_95 rfl) ?_
    refine E.m (h.get h0 lf_RX11_266 dX11_set_96 fv_11_24) ?_
    exact E.some (ret_i hr rfl dX11_set_99)
  refine E.sw (fun hc k => h.tabIn (tgt := 100) dX11_set_5 (by rw [hc]; decide) (by rw [hc]; decide) (by rw [hc]; rfl) (by decide) k) ?_ (fun _ => ?_)
  · refine E.m (h.aload_n 0 dX11_set_100 rfl) ?_
    refine E.m (h.get h0 lf_RX11_269 dX11_set_101 fv_11_25) ?_
    exact E.some (ret_i hr rfl dX11_set_104)
  refine E.sw (fun hc k => h.tabIn (tgt := 105) dX11_set_5 (by rw [hc]; decide) (by rw [hc]; decide) (by rw [hc]; rfl) (by decide) k) ?_ (fun _ => ?_)
  · refine E.m (h.aload_n 0 dX11_set_105 rfl) ?_
    refine E.m (h.get h0 lf_RX11_44 dX11_set_106 fv_11_3) ?_
    refine E.m (h.iconst (v := (4 : Int32)) dX11_set_109 (by decide)) ?_
    refine E.m (h.ialdk (k := 4) (hW.clo 42 h0 rfl) (by decide) rfl dX11_set_110) ?_
    exact E.some (ret_i hr rfl dX11_set_111)
  refine E.sw (fun hc k => h.tabIn (tgt := 112) dX11_set_5 (by rw [hc]; decide) (by rw [hc]; decide) (by rw [hc]; rfl) (by decide) k) ?_ (fun _ => ?_)
  · refine E.m (h.aload_n 0 dX11_set_112 rfl) ?_
    refine E.m (h.get h0 lf_RX11_59 dX11_set_113 fv_11_8) ?_
    refine E.m (h.bipush (v := (27 : Int32)) dX11_set_116 (by decide)) ?_
    refine E.m (h.ialdk (k := 27) (hW.clo 47 h0 rfl) (by decide) rfl dX11_set_118) ?_
    exact E.some (ret_i hr rfl dX11_set_119)
  refine E.sw (fun hc k => h.tabIn (tgt := 120) dX11_set_5 (by rw [hc]; decide) (by rw [hc]; decide) (by rw [hc]; rfl) (by decide) k) ?_ (fun _ => ?_)
  · refine E.m (h.aload_n 0 dX11_set_120 rfl) ?_
    refine E.m (h.get h0 lf_RX11_44 dX11_set_121 fv_11_3) ?_
    refine E.m (h.bipush (v := (6 : Int32)) dX11_set_124 (by decide)) ?_
    refine E.m (h.ialdk (k := 6) (hW.clo 42 h0 rfl) (by decide) rfl dX11_set_126) ?_
    exact E.some (ret_i hr rfl dX11_set_127)
  refine E.sw (fun hc k => h.tabIn (tgt := 128) dX11_set_5 (by rw [hc]; decide) (by rw [hc]; decide) (by rw [hc]; rfl) (by decide) k) ?_ (fun _ => ?_)
  · refine E.m (h.aload_n 0 dX11_set_128 rfl) ?_
    refine E.m (h.get h0 lf_RX11_44 dX11_set_129 fv_11_3) ?_
    refine E.m (h.bipush (v := (7 : Int32)) dX11_set_132 (by decide)) ?_
    refine E.m (h.ialdk (k := 7) (hW.clo 42 h0 rfl) (by decide) rfl dX11_set_134) ?_
    exact E.some (ret_i hr rfl dX11_set_135)
  refine E.sw (fun hc k => h.tabIn (tgt := 136) dX11_set_5 (by rw [hc]; decide) (by rw [hc]; decide) (by rw [hc]; rfl) (by decide) k) ?_ (fun _ => ?_)
  · refine E.m (h.aload_n 0 dX11_set_136 rfl) ?_
    refine E.m (h.get h0 lf_RX11_59 dX11_set_137 fv_11_8) ?_
    refine E.m (h.bipush (v := (28 : Int32)) dX11_set_140 (by decide)) ?_
    refine E.m (h.ialdk (k := 28) (hW.clo 47 h0 rfl) (by decide) rfl dX11_set_142) ?_
    exact E.some (ret_i hr rfl dX11_set_143)
  refine E.sw (fun hc k => h.tabIn (tgt := 144) dX11_set_5 (by rw [hc]; decide) (by rw [hc]; decide) (by rw [hc]; rfl) (by decide) k) ?_ (fun _ => ?_)
  · refine E.m (h.aload_n 0 dX11_set_144 rfl) ?_
    refine E.m (h.get h0 lf_RX11_59 dX11_set_145 fv_11_8) ?_
    refine E.m (h.bipush (v := (25 : Int32)) dX11_set_148 (by decide)) ?_
    refine E.m (h.ialdk (k := 25) (hW.clo 47 h0 rfl) (by decide) rfl dX11_set_150) ?_
    exact E.some (ret_i hr rfl dX11_set_151)
  refine E.sw (fun hc k => h.tabIn (tgt := 152) dX11_set_5 (by rw [hc]; decide) (by rw [hc]; decide) (by rw [hc]; rfl) (by decide) k) ?_ (fun _ => ?_)
  · refine E.m (h.aload_n 0 dX11_set_152 rfl) ?_
    refine E.m (h.get h0 lf_RX11_59 dX11_set_153 fv_11_8) ?_
    refine E.m (h.bipush (v := (26 : Int32)) dX11_set_156 (by decide)) ?_
    refine E.m (h.ialdk (k := 26) (hW.clo 47 h0 rfl) (by decide) rfl dX11_set_158) ?_
    exact E.some (ret_i hr rfl dX11_set_159)
  refine E.sw (fun hc k => h.tabIn (tgt := 160) dX11_set_5 (by rw [hc]; decide) (by rw [hc]; decide) (by rw [hc]; rfl) (by decide) k) ?_ (fun _ => ?_)
  · refine E.m (h.aload_n 0 dX11_set_160 rfl) ?_
    refine E.m (h.get h0 lf_RX11_59 dX11_set_161 fv_11_8) ?_
    refine E.m (h.bipush (v := (22 : Int32)) dX11_set_164 (by decide)) ?_
    refine E.m (h.ialdk (k := 22) (hW.clo 47 h0 rfl) (by decide) rfl dX11_set_166) ?_
    exact E.some (ret_i hr rfl dX11_set_167)
  refine E.sw (fun hc k => h.tabIn (tgt := 168) dX11_set_5 (by rw [hc]; decide) (by rw [hc]; decide) (by rw [hc]; rfl) (by decide) k) ?_ (fun _ => ?_)
  · refine E.m (h.aload_n 0 dX11_set_168 rfl) ?_
    refine E.m (h.get h0 lf_RX11_59 dX11_set_169 fv_11_8) ?_
    refine E.m (h.bipush (v := (23 : Int32)) dX11_set_172 (by decide)) ?_
    refine E.m (h.ialdk (k := 23) (hW.clo 47 h0 rfl) (by decide) rfl dX11_set_174) ?_
    exact E.some (ret_i hr rfl dX11_set_175)
  refine E.sw (fun hc k => h.tabIn (tgt := 176) dX11_set_5 (by rw [hc]; decide) (by rw [hc]; decide) (by rw [hc]; rfl) (by decide) k) ?_ (fun _ => ?_)
  · refine E.m (h.aload_n 0 dX11_set_176 rfl) ?_
    refine E.m (h.get h0 lf_RX11_59 dX11_set_177 fv_11_8) ?_
    refine E.m (h.bipush (v := (14 : Int32)) dX11_set_180 (by decide)) ?_
    refine E.m (h.ialdk (k := 14) (hW.clo 47 h0 rfl) (by decide) rfl dX11_set_182) ?_
    refine E.m (h.bipush (v := (64 : Int32)) dX11_set_183 (by decide)) ?_
    refine E.m (h.aload_n 0 dX11_set_185 rfl) ?_
    refine E.m (h.get h0 lf_RX11_44 dX11_set_186 fv_11_3) ?_
    refine E.m (h.iconst (v := (0 : Int32)) dX11_set_189 (by decide)) ?_
    refine E.m (h.ialdk (k := 0) (hW.clo 42 h0 rfl) (by decide) rfl dX11_set_190) ?_
    refine E.m (h.imul dX11_set_191) ?_
    refine E.gd (fun hc k => h.irem hc dX11_set_192 k) (fun _ => ?_)
    exact E.some (ret_i hr rfl dX11_set_193)
  refine E.sw (fun hc k => h.tabIn (tgt := 194) dX11_set_5 (by rw [hc]; decide) (by rw [hc]; decide) (by rw [hc]; rfl) (by decide) k) ?_ (fun _ => ?_)
  · refine E.m (h.aload_n 0 dX11_set_194 rfl) ?_
    refine E.m (h.get h0 lf_RX11_59 dX11_set_195 fv_11_8) ?_
    refine E.m (h.bipush (v := (11 : Int32)) dX11_set_198 (by decide)) ?_
    refine E.m (h.ialdk (k := 11) (hW.clo 47 h0 rfl) (by decide) rfl dX11_set_200) ?_
    exact E.some (ret_i hr rfl dX11_set_201)
  exact E.none
def f_X11_flying (t : Nat) (x1_ : Int32) (x2_ : Int32) (M : Mem) : Option (Int32 × Mem) :=
  bd (f_X11_ready t M) (fun _ M2 => bd (f_X11_isIn x1_.toInt64 (0 : Int64) (((M2.1 (t + 8) 31) - (1 : Int32)).toInt64) M2) (fun u3 M4 => jn2 (fun z5 M6 => some (z5, M6)) (fun J56 => jn1 (fun M7 => bd (f_X11_fail t (1 : Int32) M7) (fun u8 M9 => J56 u8 M9)) (fun J51 => if u3 = 0 then (J51 M4) else (bd (f_X11_isIn x2_.toInt64 (0 : Int64) (2 : Int64) M4) (fun u10 M11 => if u10 = 0 then (J51 M11) else (gdi (((33 : Int32) + ((3 : Int32) * x1_)) + x2_) 665 (J56 (M11.1 (t + 8) (((33 : Int32) + ((3 : Int32) * x1_)) + x2_).toNatClampNeg) M11))))))))
set_option maxRecDepth 20000 in
theorem c_X11_flying {G : Ctx} (hW : WFG G) {t : Nat} {x1_ : Int32} {x2_ : Int32} {M M' : Mem} {r : Int32} (h0 : hs G t (0, 11)) (hf : f_X11_flying t x1_ x2_ M = some (r, M')) : Ct G yX11_flying cX11_flying 3 (some .int) 3 62 [.ref t, .int x1_, .int x2_] M (some (.int r)) M' := by
  refine ct_i hW (by decide +kernel) (Nat.le_of_ble_eq_true rfl) (fun w h hr => ?_)
  have h : Rb G cX11_flying RX11 3 3 62 w := h
  refine (?_ : E (fun q => q = (r, M')) (f_X11_flying t x1_ x2_ M) (w M 0 [(0, .ref t), (1, .int x1_), (2, .int x2_)] [])) _ hf rfl
  unfold f_X11_flying
  refine E.m (h.aload_n 0 dX11_flying_0 rfl) ?_
  refine E.bnd (fun _ M2 => w M2 4 [(0, .ref t), (1, .int x1_), (2, .int x2_)] []) (fun _ M2 hf k => h.callV (As := []) (rest := []) (c_X11_ready hW h0 hf) lm_X11_ready lv_m_X11_ready ll_RX11_247 h0 lc_11 rfl rfl (Nat.le_of_ble_eq_true rfl) (by decide) dX11_flying_1 rfl k) (fun _ M2 => ?_)
  refine E.m (h.iload_n 1 dX11_flying_4 rfl) ?_
  refine E.m (h.i2l dX11_flying_5) ?_
  refine E.m (h.lconst (v := (0 : Int64)) dX11_flying_6 (by decide)) ?_
  refine E.m (h.aload_n 0 dX11_flying_7 rfl) ?_
  refine E.m (h.get h0 lf_RX11_59 dX11_flying_8 fv_11_8) ?_
  refine E.m (h.bipush (v := (31 : Int32)) dX11_flying_11 (by decide)) ?_
  refine E.m (h.ialdk (k := 31) (hW.clo 47 h0 rfl) (by decide) rfl dX11_flying_13) ?_
  refine E.m (h.iconst (v := (1 : Int32)) dX11_flying_14 (by decide)) ?_
  refine E.m (h.isub dX11_flying_15) ?_
  refine E.m (h.i2l dX11_flying_16) ?_
  refine E.bnd (fun u3 M4 => w M4 20 [(0, .ref t), (1, .int x1_), (2, .int x2_)] [.int u3]) (fun u3 M4 hf k => h.callS (As := [.long x1_.toInt64, .long (0 : Int64), .long (((M2.1 (t + 8) 31) - (1 : Int32)).toInt64)]) (rest := []) (c_X11_isIn hW hf) lm_X11_isIn ls_m_X11_isIn ll_RX11_358 rfl rfl (Nat.le_of_ble_eq_true rfl) (by decide) dX11_flying_17 rfl k) (fun u3 M4 => ?_)
  refine E.join2 (fun z5 M6 => w M6 56 [(0, .ref t), (1, .int x1_), (2, .int x2_)] [.int z5]) (fun z5 M6 => ?_) (fun J56 hJ56 => ?_)
  · exact E.some (ret_i hr rfl dX11_flying_56)
  refine E.join1 (fun M7 => w M7 51 [(0, .ref t), (1, .int x1_), (2, .int x2_)] []) (fun M7 => ?_) (fun J51 hJ51 => ?_)
  · refine E.m (h.aload_n 0 dX11_flying_51 rfl) ?_
    refine E.m (h.iconst (v := (1 : Int32)) dX11_flying_52 (by decide)) ?_
    refine E.bnd (fun u8 M9 => w M9 56 [(0, .ref t), (1, .int x1_), (2, .int x2_)] [.int u8]) (fun u8 M9 hf k => h.callV (As := [.int (1 : Int32)]) (rest := []) (c_X11_fail hW h0 hf) lm_X11_fail lv_m_X11_fail ll_RX11_250 h0 lc_11 rfl rfl (Nat.le_of_ble_eq_true rfl) (by decide) dX11_flying_53 rfl k) (fun u8 M9 => ?_)
    exact hJ56 _ _
  refine E.br (fun k1 k2 => h.if_eq (tgt := 51) dX11_flying_20 (by decide) k1 k2) ?_ ?_
  · exact hJ51 _
  · refine E.m (h.iload_n 2 dX11_flying_23 rfl) ?_
    refine E.m (h.i2l dX11_flying_24) ?_
    refine E.m (h.lconst (v := (0 : Int64)) dX11_flying_25 (by decide)) ?_
    refine E.m (h.ldc2 lj_RX11_362 dX11_flying_26) ?_
    refine E.bnd (fun u10 M11 => w M11 32 [(0, .ref t), (1, .int x1_), (2, .int x2_)] [.int u10]) (fun u10 M11 hf k => h.callS (As := [.long x2_.toInt64, .long (0 : Int64), .long (2 : Int64)]) (rest := []) (c_X11_isIn hW hf) lm_X11_isIn ls_m_X11_isIn ll_RX11_358 rfl rfl (Nat.le_of_ble_eq_true rfl) (by decide) dX11_flying_29 rfl k) (fun u10 M11 => ?_)
    refine E.br (fun k1 k2 => h.if_eq (tgt := 51) dX11_flying_32 (by decide) k1 k2) ?_ ?_
    · exact hJ51 _
    · refine E.m (h.aload_n 0 dX11_flying_35 rfl) ?_
      refine E.m (h.get h0 lf_RX11_59 dX11_flying_36 fv_11_8) ?_
      refine E.m (h.bipush (v := (33 : Int32)) dX11_flying_39 (by decide)) ?_
      refine E.m (h.iconst (v := (3 : Int32)) dX11_flying_41 (by decide)) ?_
      refine E.m (h.iload_n 1 dX11_flying_42 rfl) ?_
      refine E.m (h.imul dX11_flying_43) ?_
      refine E.m (h.iadd dX11_flying_44) ?_
      refine E.m (h.iload_n 2 dX11_flying_45 rfl) ?_
      refine E.m (h.iadd dX11_flying_46) ?_
      refine E.gi (fun hi k => h.iald (hW.clo 47 h0 rfl) hi dX11_flying_47 k) ?_
      refine E.m (h.goto (tgt := 56) dX11_flying_48 (by decide)) ?_
      exact hJ56 _ _
def f_X11_slot (t : Nat) (x1_ : Int32) (M : Mem) : Option (Int32 × Mem) :=
  bd (f_X11_ready t M) (fun _ M2 => bd (f_X11_isIn x1_.toInt64 (0 : Int64) (63 : Int64) M2) (fun u3 M4 => if u3 = 0 then (bd (f_X11_fail t (1 : Int32) M4) (fun u10 M11 => some (u10, M11))) else (gdi ((153 : Int32) + x1_) 665 (jn2 (fun z5 M6 => some (z5, M6)) (fun J67 => jn1 (fun M7 => J67 (-1 : Int32) M7) (fun J66 => if (M4.1 (t + 8) ((153 : Int32) + x1_).toNatClampNeg) = (-1 : Int32) then (J66 M4) else (gdi ((217 : Int32) + x1_) 665 (bd (f_X11_spotNow t M4) (fun u8 M9 => if (M4.1 (t + 8) ((217 : Int32) + x1_).toNatClampNeg) < u8 then (J66 M9) else (gdi ((153 : Int32) + x1_) 665 (J67 (M9.1 (t + 8) ((153 : Int32) + x1_).toNatClampNeg) M9)))))))))))
set_option maxRecDepth 20000 in
theorem c_X11_slot {G : Ctx} (hW : WFG G) {t : Nat} {x1_ : Int32} {M M' : Mem} {r : Int32} (h0 : hs G t (0, 11)) (hf : f_X11_slot t x1_ M = some (r, M')) : Ct G yX11_slot cX11_slot 2 (some .int) 3 62 [.ref t, .int x1_] M (some (.int r)) M' := by
  refine ct_i hW (by decide +kernel) (Nat.le_of_ble_eq_true rfl) (fun w h hr => ?_)
  have h : Rb G cX11_slot RX11 2 3 62 w := h
  refine (?_ : E (fun q => q = (r, M')) (f_X11_slot t x1_ M) (w M 0 [(0, .ref t), (1, .int x1_)] [])) _ hf rfl
  unfold f_X11_slot
  refine E.m (h.aload_n 0 dX11_slot_0 rfl) ?_
  refine E.bnd (fun _ M2 => w M2 4 [(0, .ref t), (1, .int x1_)] []) (fun _ M2 hf k => h.callV (As := []) (rest := []) (c_X11_ready hW h0 hf) lm_X11_ready lv_m_X11_ready ll_RX11_247 h0 lc_11 rfl rfl (Nat.le_of_ble_eq_true rfl) (by decide) dX11_slot_1 rfl k) (fun _ M2 => ?_)
  refine E.m (h.iload_n 1 dX11_slot_4 rfl) ?_
  refine E.m (h.i2l dX11_slot_5) ?_
  refine E.m (h.lconst (v := (0 : Int64)) dX11_slot_6 (by decide)) ?_
  refine E.m (h.ldc2 lj_RX11_364 dX11_slot_7) ?_
  refine E.bnd (fun u3 M4 => w M4 13 [(0, .ref t), (1, .int x1_)] [.int u3]) (fun u3 M4 hf k => h.callS (As := [.long x1_.toInt64, .long (0 : Int64), .long (63 : Int64)]) (rest := []) (c_X11_isIn hW hf) lm_X11_isIn ls_m_X11_isIn ll_RX11_358 rfl rfl (Nat.le_of_ble_eq_true rfl) (by decide) dX11_slot_10 rfl k) (fun u3 M4 => ?_)
  refine E.br (fun k1 k2 => h.if_ne (tgt := 22) dX11_slot_13 (by decide) k2 k1) ?_ ?_
  · refine E.m (h.aload_n 0 dX11_slot_16 rfl) ?_
    refine E.m (h.iconst (v := (1 : Int32)) dX11_slot_17 (by decide)) ?_
    refine E.bnd (fun u10 M11 => w M11 21 [(0, .ref t), (1, .int x1_)] [.int u10]) (fun u10 M11 hf k => h.callV (As := [.int (1 : Int32)]) (rest := []) (c_X11_fail hW h0 hf) lm_X11_fail lv_m_X11_fail ll_RX11_250 h0 lc_11 rfl rfl (Nat.le_of_ble_eq_true rfl) (by decide) dX11_slot_18 rfl k) (fun u10 M11 => ?_)
    exact E.some (ret_i hr rfl dX11_slot_21)
  · refine E.m (h.aload_n 0 dX11_slot_22 rfl) ?_
    refine E.m (h.get h0 lf_RX11_59 dX11_slot_23 fv_11_8) ?_
    refine E.m (h.sipush (v := (153 : Int32)) dX11_slot_26 (by decide)) ?_
    refine E.m (h.iload_n 1 dX11_slot_29 rfl) ?_
    refine E.m (h.iadd dX11_slot_30) ?_
    refine E.gi (fun hi k => h.iald (hW.clo 47 h0 rfl) hi dX11_slot_31 k) ?_
    refine E.m (h.iconst (v := (-1 : Int32)) dX11_slot_32 (by decide)) ?_
    refine E.join2 (fun z5 M6 => w M6 67 [(0, .ref t), (1, .int x1_)] [.int z5]) (fun z5 M6 => ?_) (fun J67 hJ67 => ?_)
    · exact E.some (ret_i hr rfl dX11_slot_67)
    refine E.join1 (fun M7 => w M7 66 [(0, .ref t), (1, .int x1_)] []) (fun M7 => ?_) (fun J66 hJ66 => ?_)
    · refine E.m (h.iconst (v := (-1 : Int32)) dX11_slot_66 (by decide)) ?_
      exact hJ67 _ _
    refine E.br (fun k1 k2 => h.icmp_eq (tgt := 66) dX11_slot_33 (by decide) k1 k2) ?_ ?_
    · exact hJ66 _
    · refine E.m (h.aload_n 0 dX11_slot_36 rfl) ?_
      refine E.m (h.get h0 lf_RX11_59 dX11_slot_37 fv_11_8) ?_
      refine E.m (h.sipush (v := (217 : Int32)) dX11_slot_40 (by decide)) ?_
      refine E.m (h.iload_n 1 dX11_slot_43 rfl) ?_
      refine E.m (h.iadd dX11_slot_44) ?_
      refine E.gi (fun hi k => h.iald (hW.clo 47 h0 rfl) hi dX11_slot_45 k) ?_
      refine E.m (h.aload_n 0 dX11_slot_46 rfl) ?_
      refine E.bnd (fun u8 M9 => w M9 50 [(0, .ref t), (1, .int x1_)] [.int u8, .int (M4.1 (t + 8) ((217 : Int32) + x1_).toNatClampNeg)]) (fun u8 M9 hf k => h.callV (As := []) (rest := [.int (M4.1 (t + 8) ((217 : Int32) + x1_).toNatClampNeg)]) (c_X11_spotNow hW h0 hf) lm_X11_spotNow lv_m_X11_spotNow ll_RX11_318 h0 lc_11 rfl rfl (Nat.le_of_ble_eq_true rfl) (by decide) dX11_slot_47 rfl k) (fun u8 M9 => ?_)
      refine E.br (fun k1 k2 => h.icmp_lt (tgt := 66) dX11_slot_50 (by decide) k1 k2) ?_ ?_
      · exact hJ66 _
      · refine E.m (h.aload_n 0 dX11_slot_53 rfl) ?_
        refine E.m (h.get h0 lf_RX11_59 dX11_slot_54 fv_11_8) ?_
        refine E.m (h.sipush (v := (153 : Int32)) dX11_slot_57 (by decide)) ?_
        refine E.m (h.iload_n 1 dX11_slot_60 rfl) ?_
        refine E.m (h.iadd dX11_slot_61) ?_
        refine E.gi (fun hi k => h.iald (hW.clo 47 h0 rfl) hi dX11_slot_62 k) ?_
        refine E.m (h.goto (tgt := 67) dX11_slot_63 (by decide)) ?_
        exact hJ67 _ _
def f_X11_played (t : Nat) (x1_ : Int32) (x2_ : Int32) (M : Mem) : Option (Int32 × Mem) :=
  bd (f_X11_ready t M) (fun _ M2 => bd (f_X11_playedKept t M2) (fun u3 M4 => bd (f_X11_isIn x1_.toInt64 (0 : Int64) ((u3 - (1 : Int32)).toInt64) M4) (fun u5 M6 => jn1 (fun M7 => bd (f_X11_fail t (1 : Int32) M7) (fun u8 M9 => some (u8, M9))) (fun J30 => if u5 = 0 then (J30 M6) else (bd (f_X11_isIn x2_.toInt64 (0 : Int64) (1 : Int64) M6) (fun u10 M11 => if u10 = 0 then (J30 M11) else (jn1 (fun z12 => gdi (z12 + ((((M11.1 (t + 8) 6) - (1 : Int32)) - x1_) - (((M11.1 (t + 8) 6) - (1 : Int32)) - x1_) / (128 : Int32) * (128 : Int32))) 665 (some (M11.1 (t + 8) (z12 + ((((M11.1 (t + 8) 6) - (1 : Int32)) - x1_) - (((M11.1 (t + 8) 6) - (1 : Int32)) - x1_) / (128 : Int32) * (128 : Int32))).toNatClampNeg, M11))) (fun J53 => if x2_ = 0 then (J53 (409 : Int32)) else (J53 (537 : Int32))))))))))
set_option maxRecDepth 20000 in
theorem c_X11_played {G : Ctx} (hW : WFG G) {t : Nat} {x1_ : Int32} {x2_ : Int32} {M M' : Mem} {r : Int32} (h0 : hs G t (0, 11)) (hf : f_X11_played t x1_ x2_ M = some (r, M')) : Ct G yX11_played cX11_played 3 (some .int) 3 62 [.ref t, .int x1_, .int x2_] M (some (.int r)) M' := by
  refine ct_i hW (by decide +kernel) (Nat.le_of_ble_eq_true rfl) (fun w h hr => ?_)
  have h : Rb G cX11_played RX11 3 3 62 w := h
  refine (?_ : E (fun q => q = (r, M')) (f_X11_played t x1_ x2_ M) (w M 0 [(0, .ref t), (1, .int x1_), (2, .int x2_)] [])) _ hf rfl
  unfold f_X11_played
  refine E.m (h.aload_n 0 dX11_played_0 rfl) ?_
  refine E.bnd (fun _ M2 => w M2 4 [(0, .ref t), (1, .int x1_), (2, .int x2_)] []) (fun _ M2 hf k => h.callV (As := []) (rest := []) (c_X11_ready hW h0 hf) lm_X11_ready lv_m_X11_ready ll_RX11_247 h0 lc_11 rfl rfl (Nat.le_of_ble_eq_true rfl) (by decide) dX11_played_1 rfl k) (fun _ M2 => ?_)
  refine E.m (h.iload_n 1 dX11_played_4 rfl) ?_
  refine E.m (h.i2l dX11_played_5) ?_
  refine E.m (h.lconst (v := (0 : Int64)) dX11_played_6 (by decide)) ?_
  refine E.m (h.aload_n 0 dX11_played_7 rfl) ?_
  refine E.bnd (fun u3 M4 => w M4 11 [(0, .ref t), (1, .int x1_), (2, .int x2_)] [.int u3, .long (0 : Int64), .long x1_.toInt64]) (fun u3 M4 hf k => h.callV (As := []) (rest := [.long (0 : Int64), .long x1_.toInt64]) (c_X11_playedKept hW h0 hf) lm_X11_playedKept lv_m_X11_playedKept ll_RX11_366 h0 lc_11 rfl rfl (Nat.le_of_ble_eq_true rfl) (by decide) dX11_played_8 rfl k) (fun u3 M4 => ?_)
  refine E.m (h.iconst (v := (1 : Int32)) dX11_played_11 (by decide)) ?_
  refine E.m (h.isub dX11_played_12) ?_
  refine E.m (h.i2l dX11_played_13) ?_
  refine E.bnd (fun u5 M6 => w M6 17 [(0, .ref t), (1, .int x1_), (2, .int x2_)] [.int u5]) (fun u5 M6 hf k => h.callS (As := [.long x1_.toInt64, .long (0 : Int64), .long ((u3 - (1 : Int32)).toInt64)]) (rest := []) (c_X11_isIn hW hf) lm_X11_isIn ls_m_X11_isIn ll_RX11_358 rfl rfl (Nat.le_of_ble_eq_true rfl) (by decide) dX11_played_14 rfl k) (fun u5 M6 => ?_)
  refine E.join1 (fun M7 => w M7 30 [(0, .ref t), (1, .int x1_), (2, .int x2_)] []) (fun M7 => ?_) (fun J30 hJ30 => ?_)
  · refine E.m (h.aload_n 0 dX11_played_30 rfl) ?_
    refine E.m (h.iconst (v := (1 : Int32)) dX11_played_31 (by decide)) ?_
    refine E.bnd (fun u8 M9 => w M9 35 [(0, .ref t), (1, .int x1_), (2, .int x2_)] [.int u8]) (fun u8 M9 hf k => h.callV (As := [.int (1 : Int32)]) (rest := []) (c_X11_fail hW h0 hf) lm_X11_fail lv_m_X11_fail ll_RX11_250 h0 lc_11 rfl rfl (Nat.le_of_ble_eq_true rfl) (by decide) dX11_played_32 rfl k) (fun u8 M9 => ?_)
    exact E.some (ret_i hr rfl dX11_played_35)
  refine E.br (fun k1 k2 => h.if_eq (tgt := 30) dX11_played_17 (by decide) k1 k2) ?_ ?_
  · exact hJ30 _
  · refine E.m (h.iload_n 2 dX11_played_20 rfl) ?_
    refine E.m (h.i2l dX11_played_21) ?_
    refine E.m (h.lconst (v := (0 : Int64)) dX11_played_22 (by decide)) ?_
    refine E.m (h.lconst (v := (1 : Int64)) dX11_played_23 (by decide)) ?_
    refine E.bnd (fun u10 M11 => w M11 27 [(0, .ref t), (1, .int x1_), (2, .int x2_)] [.int u10]) (fun u10 M11 hf k => h.callS (As := [.long x2_.toInt64, .long (0 : Int64), .long (1 : Int64)]) (rest := []) (c_X11_isIn hW hf) lm_X11_isIn ls_m_X11_isIn ll_RX11_358 rfl rfl (Nat.le_of_ble_eq_true rfl) (by decide) dX11_played_24 rfl k) (fun u10 M11 => ?_)
    refine E.br (fun k1 k2 => h.if_ne (tgt := 36) dX11_played_27 (by decide) k2 k1) ?_ ?_
    · exact hJ30 _
    · refine E.m (h.aload_n 0 dX11_played_36 rfl) ?_
      refine E.m (h.get h0 lf_RX11_59 dX11_played_37 fv_11_8) ?_
      refine E.m (h.iload_n 2 dX11_played_40 rfl) ?_
      refine E.join1 (fun z12 => w M11 53 [(0, .ref t), (1, .int x1_), (2, .int x2_)] [.int z12, .ref (t + 8)]) (fun z12 => ?_) (fun J53 hJ53 => ?_)
      · refine E.m (h.aload_n 0 dX11_played_53 rfl) ?_
        refine E.m (h.get h0 lf_RX11_59 dX11_played_54 fv_11_8) ?_
        refine E.m (h.bipush (v := (6 : Int32)) dX11_played_57 (by decide)) ?_
        refine E.m (h.ialdk (k := 6) (hW.clo 47 h0 rfl) (by decide) rfl dX11_played_59) ?_
        refine E.m (h.iconst (v := (1 : Int32)) dX11_played_60 (by decide)) ?_
        refine E.m (h.isub dX11_played_61) ?_
        refine E.m (h.iload_n 1 dX11_played_62 rfl) ?_
        refine E.m (h.isub dX11_played_63) ?_
        refine E.m (h.sipush (v := (128 : Int32)) dX11_played_64 (by decide)) ?_
        refine E.m (h.irem (by decide) dX11_played_67) ?_
        refine E.m (h.iadd dX11_played_68) ?_
        refine E.gi (fun hi k => h.iald (hW.clo 47 h0 rfl) hi dX11_played_69 k) ?_
        exact E.some (ret_i hr rfl dX11_played_70)
      refine E.br (fun k1 k2 => h.if_ne (tgt := 50) dX11_played_41 (by decide) k2 k1) ?_ ?_
      · refine E.m (h.sipush (v := (409 : Int32)) dX11_played_44 (by decide)) ?_
        refine E.m (h.goto (tgt := 53) dX11_played_47 (by decide)) ?_
        exact hJ53 _
      · refine E.m (h.sipush (v := (537 : Int32)) dX11_played_50 (by decide)) ?_
        exact hJ53 _
def l_X11_spans_33 (t : Nat) (x1_ : Int32) (x2_ : Int32) (M6 : Mem) (k7 : Int32) (k8 : Int32) (k9 : Int32) : Option ((Int32 × Int32 × Int32) ⊕ (Int32 × Mem)) :=
  if k9 < 0 then (jn2 (fun z10 M11 => some (.inr (z10, M11))) (fun J134 => if x2_ = (-1 : Int32) then (J134 k7 M6) else (bd (f_X11_fail t (1 : Int32) M6) (fun u12 M13 => J134 u12 M13)))) else (jn1 (fun z14 => jn1 (fun z15 => jn1 (fun z16 => nm (k9 + (-1 : Int32)) (fun y17 => some (.inl (z15, z16, y17)))) (fun J112 => if z14 = 0 then (J112 (0 : Int32)) else (J112 (k8 + (1 : Int32))))) (fun J99 => if z14 = 0 then (if k8 < x1_ then (J99 k7) else (if k7 = x2_ then (some (.inr (k8, M6))) else (nm (k7 + (1 : Int32)) (fun y18 => J99 y18)))) else (J99 k7))) (fun J75 => jn0 (fun _ => J75 (0 : Int32)) (fun J74 => if k9 ≤ 0 then (J74 ()) else (gdi ((537 : Int32) + (((M6.1 (t + 8) 6) - k9) - ((M6.1 (t + 8) 6) - k9) / (128 : Int32) * (128 : Int32))) 665 (if (M6.1 (t + 8) ((537 : Int32) + (((M6.1 (t + 8) 6) - k9) - ((M6.1 (t + 8) 6) - k9) / (128 : Int32) * (128 : Int32))).toNatClampNeg) = (1 : Int32) then (J75 (1 : Int32)) else (J74 ()))))))
def f_X11_spans (t : Nat) (x1_ : Int32) (x2_ : Int32) (M : Mem) : Option (Int32 × Mem) :=
  bd (f_X11_ready t M) (fun _ M2 => bd (f_X11_isIn x1_.toInt64 (1 : Int64) (128 : Int64) M2) (fun u3 M4 => if u3 = 0 then (bd (f_X11_fail t (2 : Int32) M4) (fun u19 M20 => some (u19, M20))) else (bd (f_X11_playedKept t M4) (fun u5 M6 => lop3 FU (l_X11_spans_33 t x1_ x2_ M6) (0 : Int32) (0 : Int32) u5))))
set_option maxRecDepth 20000 in
theorem c_X11_spans {G : Ctx} (hW : WFG G) {t : Nat} {x1_ : Int32} {x2_ : Int32} {M M' : Mem} {r : Int32} (h0 : hs G t (0, 11)) (hf : f_X11_spans t x1_ x2_ M = some (r, M')) : Ct G yX11_spans cX11_spans 7 (some .int) 3 62 [.ref t, .int x1_, .int x2_] M (some (.int r)) M' := by
  refine ct_i hW (by decide +kernel) (Nat.le_of_ble_eq_true rfl) (fun w h hr => ?_)
  have h : Rb G cX11_spans RX11 7 3 62 w := h
  refine (?_ : E (fun q => q = (r, M')) (f_X11_spans t x1_ x2_ M) (w M 0 [(0, .ref t), (1, .int x1_), (2, .int x2_)] [])) _ hf rfl
  unfold f_X11_spans
  refine E.m (h.aload_n 0 dX11_spans_0 rfl) ?_
  refine E.bnd (fun _ M2 => w M2 4 [(0, .ref t), (1, .int x1_), (2, .int x2_)] []) (fun _ M2 hf k => h.callV (As := []) (rest := []) (c_X11_ready hW h0 hf) lm_X11_ready lv_m_X11_ready ll_RX11_247 h0 lc_11 rfl rfl (Nat.le_of_ble_eq_true rfl) (by decide) dX11_spans_1 rfl k) (fun _ M2 => ?_)
  refine E.m (h.iload_n 1 dX11_spans_4 rfl) ?_
  refine E.m (h.i2l dX11_spans_5) ?_
  refine E.m (h.lconst (v := (1 : Int64)) dX11_spans_6 (by decide)) ?_
  refine E.m (h.ldc2 lj_RX11_369 dX11_spans_7) ?_
  refine E.bnd (fun u3 M4 => w M4 13 [(0, .ref t), (1, .int x1_), (2, .int x2_)] [.int u3]) (fun u3 M4 hf k => h.callS (As := [.long x1_.toInt64, .long (1 : Int64), .long (128 : Int64)]) (rest := []) (c_X11_isIn hW hf) lm_X11_isIn ls_m_X11_isIn ll_RX11_358 rfl rfl (Nat.le_of_ble_eq_true rfl) (by decide) dX11_spans_10 rfl k) (fun u3 M4 => ?_)
  refine E.br (fun k1 k2 => h.if_ne (tgt := 22) dX11_spans_13 (by decide) k2 k1) ?_ ?_
  · refine E.m (h.aload_n 0 dX11_spans_16 rfl) ?_
    refine E.m (h.iconst (v := (2 : Int32)) dX11_spans_17 (by decide)) ?_
    refine E.bnd (fun u19 M20 => w M20 21 [(0, .ref t), (1, .int x1_), (2, .int x2_)] [.int u19]) (fun u19 M20 hf k => h.callV (As := [.int (2 : Int32)]) (rest := []) (c_X11_fail hW h0 hf) lm_X11_fail lv_m_X11_fail ll_RX11_250 h0 lc_11 rfl rfl (Nat.le_of_ble_eq_true rfl) (by decide) dX11_spans_18 rfl k) (fun u19 M20 => ?_)
    exact E.some (ret_i hr rfl dX11_spans_21)
  · refine E.m (h.iconst (v := (0 : Int32)) dX11_spans_22 (by decide)) ?_
    refine E.m (h.istore_n dX11_spans_23 (by decide) rfl) ?_
    refine E.m (h.iconst (v := (0 : Int32)) dX11_spans_24 (by decide)) ?_
    refine E.m (h.istore dX11_spans_25 (by decide) rfl) ?_
    refine E.m (h.aload_n 2 dX11_spans_27 rfl) ?_
    refine E.bnd (fun u5 M6 => w M6 31 [(4, .int (0 : Int32)), (3, .int (0 : Int32)), (0, .ref t), (1, .int x1_), (2, .int x2_)] [.int u5]) (fun u5 M6 hf k => h.callV (As := []) (rest := []) (c_X11_playedKept hW h0 hf) lm_X11_playedKept lv_m_X11_playedKept ll_RX11_366 h0 lc_11 rfl rfl (Nat.le_of_ble_eq_true rfl) (by decide) dX11_spans_28 rfl k) (fun u5 M6 => ?_)
    refine E.m (h.istore dX11_spans_31 (by decide) rfl) ?_
    refine E.m (h.sub [3, 4, 5, 2, 1, 0] rfl) ?_
    refine E.loop3 (fun k7 k8 k9 => w M6 33 [(0, .ref t), (1, .int x1_), (2, .int x2_), (3, .int k7), (4, .int k8), (5, .int k9)] []) (fun k7 k8 k9 => ?_) _ _ _ _
    unfold l_X11_spans_33
    refine E.m (h.iload 5 dX11_spans_33 rfl) ?_
    refine E.br (fun k1 k2 => h.if_lt (tgt := 120) dX11_spans_35 (by decide) k1 k2) ?_ ?_
    · refine E.m (h.iload_n 2 dX11_spans_120 rfl) ?_
      refine E.m (h.iconst (v := (-1 : Int32)) dX11_spans_121 (by decide)) ?_
      refine E.join2 (fun z10 M11 => w M11 134 [(0, .ref t), (1, .int x1_), (2, .int x2_), (3, .int k7), (4, .int k8), (5, .int k9)] [.int z10]) (fun z10 M11 => ?_) (fun J134 hJ134 => ?_)
      · exact E.some (ret_i hr rfl dX11_spans_134)
      refine E.br (fun k1 k2 => h.icmp_ne (tgt := 129) dX11_spans_122 (by decide) k2 k1) ?_ ?_
      · refine E.m (h.iload_n 3 dX11_spans_125 rfl) ?_
        refine E.m (h.goto (tgt := 134) dX11_spans_126 (by decide)) ?_
        exact hJ134 _ _
      · refine E.m (h.aload_n 0 dX11_spans_129 rfl) ?_
        refine E.m (h.iconst (v := (1 : Int32)) dX11_spans_130 (by decide)) ?_
        refine E.bnd (fun u12 M13 => w M13 134 [(0, .ref t), (1, .int x1_), (2, .int x2_), (3, .int k7), (4, .int k8), (5, .int k9)] [.int u12]) (fun u12 M13 hf k => h.callV (As := [.int (1 : Int32)]) (rest := []) (c_X11_fail hW h0 hf) lm_X11_fail lv_m_X11_fail ll_RX11_250 h0 lc_11 rfl rfl (Nat.le_of_ble_eq_true rfl) (by decide) dX11_spans_131 rfl k) (fun u12 M13 => ?_)
        exact hJ134 _ _
    · refine E.m (h.iload 5 dX11_spans_38 rfl) ?_
      refine E.join1 (fun z14 => w M6 75 [(0, .ref t), (1, .int x1_), (2, .int x2_), (3, .int k7), (4, .int k8), (5, .int k9)] [.int z14]) (fun z14 => ?_) (fun J75 hJ75 => ?_)
      · refine E.m (h.istore dX11_spans_75 (by decide) rfl) ?_
        refine E.m (h.iload 0 dX11_spans_77 rfl) ?_
        refine E.join1 (fun z15 => w M6 99 [(0, .ref t), (1, .int x1_), (2, .int x2_), (3, .int z15), (4, .int k8), (5, .int k9), (6, .int z14)] []) (fun z15 => ?_) (fun J99 hJ99 => ?_)
        · refine E.m (h.iload 6 dX11_spans_99 rfl) ?_
          refine E.join1 (fun z16 => w M6 112 [(0, .ref t), (1, .int x1_), (2, .int x2_), (3, .int z15), (4, .int k8), (5, .int k9), (6, .int z14)] [.int z16]) (fun z16 => ?_) (fun J112 hJ112 => ?_)
          · refine E.m (h.istore dX11_spans_112 (by decide) rfl) ?_
            refine E.m (h.iinc (v := (-1 : Int32)) 5 dX11_spans_114 rfl (by decide) (by decide) rfl) ?_
            refine E.nmL (fun y17 => ?_)
            refine E.m (h.goto (tgt := 33) dX11_spans_117 (by decide)) ?_
            refine E.m (h.sub [2, 3, 4, 5, 1, 0] rfl) ?_
            exact E.some (fun q => q)
          refine E.br (fun k1 k2 => h.if_eq (tgt := 111) dX11_spans_101 (by decide) k1 k2) ?_ ?_
          · refine E.m (h.iconst (v := (0 : Int32)) dX11_spans_111 (by decide)) ?_
            exact hJ112 _
          · refine E.m (h.iload 4 dX11_spans_104 rfl) ?_
            refine E.m (h.iconst (v := (1 : Int32)) dX11_spans_106 (by decide)) ?_
            refine E.m (h.iadd dX11_spans_107) ?_
            refine E.m (h.goto (tgt := 112) dX11_spans_108 (by decide)) ?_
            exact hJ112 _
        refine E.br (fun k1 k2 => h.if_ne (tgt := 99) dX11_spans_79 (by decide) k2 k1) ?_ ?_
        · refine E.m (h.iload 5 dX11_spans_82 rfl) ?_
          refine E.m (h.iload_n 2 dX11_spans_84 rfl) ?_
          refine E.br (fun k1 k2 => h.icmp_lt (tgt := 99) dX11_spans_85 (by decide) k1 k2) ?_ ?_
          · refine E.m (h.sub [1, 2, 3, 4, 5, 6, 0] rfl) ?_
            exact hJ99 _
          · refine E.m (h.iload_n 4 dX11_spans_88 rfl) ?_
            refine E.m (h.iload_n 3 dX11_spans_89 rfl) ?_
            refine E.br (fun k1 k2 => h.icmp_ne (tgt := 96) dX11_spans_90 (by decide) k2 k1) ?_ ?_
            · refine E.m (h.iload 5 dX11_spans_93 rfl) ?_
              exact E.some (ret_i hr rfl dX11_spans_95)
            · refine E.m (h.iinc (v := (1 : Int32)) 4 dX11_spans_96 rfl (by decide) (by decide) rfl) ?_
              refine E.nmL (fun y18 => ?_)
              refine E.m (h.sub [2, 3, 4, 0, 5, 6, 1] rfl) ?_
              exact hJ99 _
        · refine E.m (h.sub [1, 2, 3, 4, 5, 6, 0] rfl) ?_
          exact hJ99 _
      refine E.join0 (fun _ => w M6 74 [(0, .ref t), (1, .int x1_), (2, .int x2_), (3, .int k7), (4, .int k8), (5, .int k9)] []) (fun _ => ?_) (fun J74 hJ74 => ?_)
      · refine E.m (h.iconst (v := (0 : Int32)) dX11_spans_74 (by decide)) ?_
        exact hJ75 _
      refine E.br (fun k1 k2 => h.if_le (tgt := 74) dX11_spans_40 (by decide) k1 k2) ?_ ?_
      · exact hJ74 ()
      · refine E.m (h.aload_n 0 dX11_spans_43 rfl) ?_
        refine E.m (h.get h0 lf_RX11_59 dX11_spans_44 fv_11_8) ?_
        refine E.m (h.sipush (v := (537 : Int32)) dX11_spans_47 (by decide)) ?_
        refine E.m (h.aload_n 0 dX11_spans_50 rfl) ?_
        refine E.m (h.get h0 lf_RX11_59 dX11_spans_51 fv_11_8) ?_
        refine E.m (h.bipush (v := (6 : Int32)) dX11_spans_54 (by decide)) ?_
        refine E.m (h.ialdk (k := 6) (hW.clo 47 h0 rfl) (by decide) rfl dX11_spans_56) ?_
        refine E.m (h.iload 5 dX11_spans_57 rfl) ?_
        refine E.m (h.isub dX11_spans_59) ?_
        refine E.m (h.sipush (v := (128 : Int32)) dX11_spans_60 (by decide)) ?_
        refine E.m (h.irem (by decide) dX11_spans_63) ?_
        refine E.m (h.iadd dX11_spans_64) ?_
        refine E.gi (fun hi k => h.iald (hW.clo 47 h0 rfl) hi dX11_spans_65 k) ?_
        refine E.m (h.iconst (v := (1 : Int32)) dX11_spans_66 (by decide)) ?_
        refine E.br (fun k1 k2 => h.icmp_ne (tgt := 74) dX11_spans_67 (by decide) k2 k1) ?_ ?_
        · refine E.m (h.iconst (v := (1 : Int32)) dX11_spans_70 (by decide)) ?_
          refine E.m (h.goto (tgt := 75) dX11_spans_71 (by decide)) ?_
          exact hJ75 _
        · exact hJ74 ()
def f_X11_sampleAt (t : Nat) (x1_ : Int32) (M : Mem) : Option (Int32 × Mem) :=
  bd (f_X11_samplesKept t M) (fun u1 M2 => gdi ((281 : Int32) + ((((M.1 (t + 8) 32) - u1) + x1_) - (((M.1 (t + 8) 32) - u1) + x1_) / (128 : Int32) * (128 : Int32))) 665 (some (M2.1 (t + 8) ((281 : Int32) + ((((M.1 (t + 8) 32) - u1) + x1_) - (((M.1 (t + 8) 32) - u1) + x1_) / (128 : Int32) * (128 : Int32))).toNatClampNeg, M2)))
set_option maxRecDepth 20000 in
theorem c_X11_sampleAt {G : Ctx} (hW : WFG G) {t : Nat} {x1_ : Int32} {M M' : Mem} {r : Int32} (h0 : hs G t (0, 11)) (hf : f_X11_sampleAt t x1_ M = some (r, M')) : Ct G yX11_sampleAt cX11_sampleAt 2 (some .int) 2 41 [.ref t, .int x1_] M (some (.int r)) M' := by
  refine ct_i hW (by decide +kernel) (Nat.le_of_ble_eq_true rfl) (fun w h hr => ?_)
  have h : Rb G cX11_sampleAt RX11 2 2 41 w := h
  refine (?_ : E (fun q => q = (r, M')) (f_X11_sampleAt t x1_ M) (w M 0 [(0, .ref t), (1, .int x1_)] [])) _ hf rfl
  unfold f_X11_sampleAt
  refine E.m (h.aload_n 0 dX11_sampleAt_0 rfl) ?_
  refine E.m (h.get h0 lf_RX11_59 dX11_sampleAt_1 fv_11_8) ?_
  refine E.m (h.sipush (v := (281 : Int32)) dX11_sampleAt_4 (by decide)) ?_
  refine E.m (h.aload_n 0 dX11_sampleAt_7 rfl) ?_
  refine E.m (h.get h0 lf_RX11_59 dX11_sampleAt_8 fv_11_8) ?_
  refine E.m (h.bipush (v := (32 : Int32)) dX11_sampleAt_11 (by decide)) ?_
  refine E.m (h.ialdk (k := 32) (hW.clo 47 h0 rfl) (by decide) rfl dX11_sampleAt_13) ?_
  refine E.m (h.aload_n 0 dX11_sampleAt_14 rfl) ?_
  refine E.bnd (fun u1 M2 => w M2 18 [(0, .ref t), (1, .int x1_)] [.int u1, .int (M.1 (t + 8) 32), .int (281 : Int32), .ref (t + 8)]) (fun u1 M2 hf k => h.callV (As := []) (rest := [.int (M.1 (t + 8) 32), .int (281 : Int32), .ref (t + 8)]) (c_X11_samplesKept hW h0 hf) lm_X11_samplesKept lv_m_X11_samplesKept ll_RX11_355 h0 lc_11 rfl rfl (Nat.le_of_ble_eq_true rfl) (by decide) dX11_sampleAt_15 rfl k) (fun u1 M2 => ?_)
  refine E.m (h.isub dX11_sampleAt_18) ?_
  refine E.m (h.iload_n 1 dX11_sampleAt_19 rfl) ?_
  refine E.m (h.iadd dX11_sampleAt_20) ?_
  refine E.m (h.sipush (v := (128 : Int32)) dX11_sampleAt_21 (by decide)) ?_
  refine E.m (h.irem (by decide) dX11_sampleAt_24) ?_
  refine E.m (h.iadd dX11_sampleAt_25) ?_
  refine E.gi (fun hi k => h.iald (hW.clo 47 h0 rfl) hi dX11_sampleAt_26 k) ?_
  exact E.some (ret_i hr rfl dX11_sampleAt_27)
def f_X11_sample (t : Nat) (x1_ : Int32) (M : Mem) : Option (Int32 × Mem) :=
  bd (f_X11_ready t M) (fun _ M2 => bd (f_X11_samplesKept t M2) (fun u3 M4 => bd (f_X11_isIn x1_.toInt64 (0 : Int64) ((u3 - (1 : Int32)).toInt64) M4) (fun u5 M6 => jn2 (fun z7 M8 => some (z7, M8)) (fun J33 => if u5 = 0 then (bd (f_X11_fail t (1 : Int32) M6) (fun u9 M10 => J33 u9 M10)) else (bd (f_X11_sampleAt t x1_ M6) (fun u11 M12 => J33 u11 M12))))))
set_option maxRecDepth 20000 in
theorem c_X11_sample {G : Ctx} (hW : WFG G) {t : Nat} {x1_ : Int32} {M M' : Mem} {r : Int32} (h0 : hs G t (0, 11)) (hf : f_X11_sample t x1_ M = some (r, M')) : Ct G yX11_sample cX11_sample 2 (some .int) 3 62 [.ref t, .int x1_] M (some (.int r)) M' := by
  refine ct_i hW (by decide +kernel) (Nat.le_of_ble_eq_true rfl) (fun w h hr => ?_)
  have h : Rb G cX11_sample RX11 2 3 62 w := h
  refine (?_ : E (fun q => q = (r, M')) (f_X11_sample t x1_ M) (w M 0 [(0, .ref t), (1, .int x1_)] [])) _ hf rfl
  unfold f_X11_sample
  refine E.m (h.aload_n 0 dX11_sample_0 rfl) ?_
  refine E.bnd (fun _ M2 => w M2 4 [(0, .ref t), (1, .int x1_)] []) (fun _ M2 hf k => h.callV (As := []) (rest := []) (c_X11_ready hW h0 hf) lm_X11_ready lv_m_X11_ready ll_RX11_247 h0 lc_11 rfl rfl (Nat.le_of_ble_eq_true rfl) (by decide) dX11_sample_1 rfl k) (fun _ M2 => ?_)
  refine E.m (h.iload_n 1 dX11_sample_4 rfl) ?_
  refine E.m (h.i2l dX11_sample_5) ?_
  refine E.m (h.lconst (v := (0 : Int64)) dX11_sample_6 (by decide)) ?_
  refine E.m (h.aload_n 0 dX11_sample_7 rfl) ?_
  refine E.bnd (fun u3 M4 => w M4 11 [(0, .ref t), (1, .int x1_)] [.int u3, .long (0 : Int64), .long x1_.toInt64]) (fun u3 M4 hf k => h.callV (As := []) (rest := [.long (0 : Int64), .long x1_.toInt64]) (c_X11_samplesKept hW h0 hf) lm_X11_samplesKept lv_m_X11_samplesKept ll_RX11_355 h0 lc_11 rfl rfl (Nat.le_of_ble_eq_true rfl) (by decide) dX11_sample_8 rfl k) (fun u3 M4 => ?_)
  refine E.m (h.iconst (v := (1 : Int32)) dX11_sample_11 (by decide)) ?_
  refine E.m (h.isub dX11_sample_12) ?_
  refine E.m (h.i2l dX11_sample_13) ?_
  refine E.bnd (fun u5 M6 => w M6 17 [(0, .ref t), (1, .int x1_)] [.int u5]) (fun u5 M6 hf k => h.callS (As := [.long x1_.toInt64, .long (0 : Int64), .long ((u3 - (1 : Int32)).toInt64)]) (rest := []) (c_X11_isIn hW hf) lm_X11_isIn ls_m_X11_isIn ll_RX11_358 rfl rfl (Nat.le_of_ble_eq_true rfl) (by decide) dX11_sample_14 rfl k) (fun u5 M6 => ?_)
  refine E.join2 (fun z7 M8 => w M8 33 [(0, .ref t), (1, .int x1_)] [.int z7]) (fun z7 M8 => ?_) (fun J33 hJ33 => ?_)
  · exact E.some (ret_i hr rfl dX11_sample_33)
  refine E.br (fun k1 k2 => h.if_eq (tgt := 28) dX11_sample_17 (by decide) k1 k2) ?_ ?_
  · refine E.m (h.aload_n 0 dX11_sample_28 rfl) ?_
    refine E.m (h.iconst (v := (1 : Int32)) dX11_sample_29 (by decide)) ?_
    refine E.bnd (fun u9 M10 => w M10 33 [(0, .ref t), (1, .int x1_)] [.int u9]) (fun u9 M10 hf k => h.callV (As := [.int (1 : Int32)]) (rest := []) (c_X11_fail hW h0 hf) lm_X11_fail lv_m_X11_fail ll_RX11_250 h0 lc_11 rfl rfl (Nat.le_of_ble_eq_true rfl) (by decide) dX11_sample_30 rfl k) (fun u9 M10 => ?_)
    exact hJ33 _ _
  · refine E.m (h.aload_n 0 dX11_sample_20 rfl) ?_
    refine E.m (h.iload_n 1 dX11_sample_21 rfl) ?_
    refine E.bnd (fun u11 M12 => w M12 25 [(0, .ref t), (1, .int x1_)] [.int u11]) (fun u11 M12 hf k => h.callV (As := [.int x1_]) (rest := []) (c_X11_sampleAt hW h0 hf) lm_X11_sampleAt lv_m_X11_sampleAt ll_RX11_371 h0 lc_11 rfl rfl (Nat.le_of_ble_eq_true rfl) (by decide) dX11_sample_22 rfl k) (fun u11 M12 => ?_)
    refine E.m (h.goto (tgt := 33) dX11_sample_25 (by decide)) ?_
    exact hJ33 _ _
def l_X11_rangeOf_12 (t : Nat) (x1_ : Int32) (x2_ : Int32) (k1 : Int32) (k2 : Int32) (k3 : Int32) (M4 : Mem) : Option ((Int32 × Int32 × Int32 × Mem) ⊕ (Int32 × Mem)) :=
  if (x1_ + x2_) ≤ k3 then (some (.inr (k2 - k1, M4))) else (bd (f_X11_sampleAt t k3 M4) (fun u5 M6 => bd (f_J9_min_7cf53 k1 u5 M6) (fun u7 M8 => bd (f_X11_sampleAt t k3 M8) (fun u9 M10 => bd (f_J9_max_7cf53 k2 u9 M10) (fun u11 M12 => nm (k3 + (1 : Int32)) (fun y13 => some (.inl (u7, u11, y13, M12))))))))
def f_X11_rangeOf (t : Nat) (x1_ : Int32) (x2_ : Int32) (M : Mem) : Option (Int32 × Mem) :=
  lop4 FU (l_X11_rangeOf_12 t x1_ x2_) (100000000 : Int32) (-100000000 : Int32) x1_ M
set_option maxRecDepth 20000 in
theorem c_X11_rangeOf {G : Ctx} (hW : WFG G) {t : Nat} {x1_ : Int32} {x2_ : Int32} {M M' : Mem} {r : Int32} (h0 : hs G t (0, 11)) (hf : f_X11_rangeOf t x1_ x2_ M = some (r, M')) : Ct G yX11_rangeOf cX11_rangeOf 6 (some .int) 3 62 [.ref t, .int x1_, .int x2_] M (some (.int r)) M' := by
  refine ct_i hW (by decide +kernel) (Nat.le_of_ble_eq_true rfl) (fun w h hr => ?_)
  have h : Rb G cX11_rangeOf RX11 6 3 62 w := h
  refine (?_ : E (fun q => q = (r, M')) (f_X11_rangeOf t x1_ x2_ M) (w M 0 [(0, .ref t), (1, .int x1_), (2, .int x2_)] [])) _ hf rfl
  unfold f_X11_rangeOf
  refine E.m (h.ldcw li_RX11_374 dX11_rangeOf_0) ?_
  refine E.m (h.istore_n dX11_rangeOf_3 (by decide) rfl) ?_
  refine E.m (h.ldcw li_RX11_375 dX11_rangeOf_4) ?_
  refine E.m (h.istore dX11_rangeOf_7 (by decide) rfl) ?_
  refine E.m (h.iload_n 3 dX11_rangeOf_9 rfl) ?_
  refine E.m (h.istore dX11_rangeOf_10 (by decide) rfl) ?_
  refine E.m (h.sub [3, 4, 5, 2, 1, 0] rfl) ?_
  refine E.loop4 (fun k1 k2 k3 M4 => w M4 12 [(0, .ref t), (1, .int x1_), (2, .int x2_), (3, .int k1), (4, .int k2), (5, .int k3)] []) (fun k1 k2 k3 M4 => ?_) _ _ _ _ _
  unfold l_X11_rangeOf_12
  refine E.m (h.iload 5 dX11_rangeOf_12 rfl) ?_
  refine E.m (h.iload_n 1 dX11_rangeOf_14 rfl) ?_
  refine E.m (h.iload_n 2 dX11_rangeOf_15 rfl) ?_
  refine E.m (h.iadd dX11_rangeOf_16) ?_
  refine E.br (fun k1 k2 => h.icmp_ge (tgt := 50) dX11_rangeOf_17 (by decide) k1 k2) ?_ ?_
  · refine E.m (h.iload 4 dX11_rangeOf_50 rfl) ?_
    refine E.m (h.iload_n 3 dX11_rangeOf_52 rfl) ?_
    refine E.m (h.isub dX11_rangeOf_53) ?_
    exact E.some (ret_i hr rfl dX11_rangeOf_54)
  · refine E.m (h.iload_n 3 dX11_rangeOf_20 rfl) ?_
    refine E.m (h.aload_n 0 dX11_rangeOf_21 rfl) ?_
    refine E.m (h.iload 5 dX11_rangeOf_22 rfl) ?_
    refine E.bnd (fun u5 M6 => w M6 27 [(0, .ref t), (1, .int x1_), (2, .int x2_), (3, .int k1), (4, .int k2), (5, .int k3)] [.int u5, .int k1]) (fun u5 M6 hf k => h.callV (As := [.int k3]) (rest := [.int k1]) (c_X11_sampleAt hW h0 hf) lm_X11_sampleAt lv_m_X11_sampleAt ll_RX11_371 h0 lc_11 rfl rfl (Nat.le_of_ble_eq_true rfl) (by decide) dX11_rangeOf_24 rfl k) (fun u5 M6 => ?_)
    refine E.bnd (fun u7 M8 => w M8 30 [(0, .ref t), (1, .int x1_), (2, .int x2_), (3, .int k1), (4, .int k2), (5, .int k3)] [.int u7]) (fun u7 M8 hf k => h.callS (As := [.int k1, .int u5]) (rest := []) (c_J9_min_7cf53 hW hf) lm_J9_min_7cf53 ls_m_J9_min_7cf53 ll_RX11_124 rfl rfl (Nat.le_of_ble_eq_true rfl) (by decide) dX11_rangeOf_27 rfl k) (fun u7 M8 => ?_)
    refine E.m (h.istore_n dX11_rangeOf_30 (by decide) rfl) ?_
    refine E.m (h.iload 4 dX11_rangeOf_31 rfl) ?_
    refine E.m (h.aload_n 1 dX11_rangeOf_33 rfl) ?_
    refine E.m (h.iload 5 dX11_rangeOf_34 rfl) ?_
    refine E.bnd (fun u9 M10 => w M10 39 [(3, .int u7), (0, .ref t), (1, .int x1_), (2, .int x2_), (4, .int k2), (5, .int k3)] [.int u9, .int k2]) (fun u9 M10 hf k => h.callV (As := [.int k3]) (rest := [.int k2]) (c_X11_sampleAt hW h0 hf) lm_X11_sampleAt lv_m_X11_sampleAt ll_RX11_371 h0 lc_11 rfl rfl (Nat.le_of_ble_eq_true rfl) (by decide) dX11_rangeOf_36 rfl k) (fun u9 M10 => ?_)
    refine E.bnd (fun u11 M12 => w M12 42 [(3, .int u7), (0, .ref t), (1, .int x1_), (2, .int x2_), (4, .int k2), (5, .int k3)] [.int u11]) (fun u11 M12 hf k => h.callS (As := [.int k2, .int u9]) (rest := []) (c_J9_max_7cf53 hW hf) lm_J9_max_7cf53 ls_m_J9_max_7cf53 ll_RX11_130 rfl rfl (Nat.le_of_ble_eq_true rfl) (by decide) dX11_rangeOf_39 rfl k) (fun u11 M12 => ?_)
    refine E.m (h.istore dX11_rangeOf_42 (by decide) rfl) ?_
    refine E.m (h.iinc (v := (1 : Int32)) 5 dX11_rangeOf_44 rfl (by decide) (by decide) rfl) ?_
    refine E.nmL (fun y13 => ?_)
    refine E.m (h.goto (tgt := 12) dX11_rangeOf_47 (by decide)) ?_
    refine E.m (h.sub [3, 4, 5, 2, 1, 0] rfl) ?_
    exact E.some (fun q => q)
