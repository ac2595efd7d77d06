theorem fv_11_2 {M : Mem} {a : Nat} : fvl M a 11 2 = .int (M.1 a 2) := rfl
theorem fv_11_12 {M : Mem} {a : Nat} : fvl M a 11 12 = .int (M.1 a 12) := rfl
theorem fv_11_11 {M : Mem} {a : Nat} : fvl M a 11 11 = .ref (a + 9) := rfl
theorem fv_11_14 {M : Mem} {a : Nat} : fvl M a 11 14 = .int (M.1 a 14) := rfl
theorem fv_11_13 {M : Mem} {a : Nat} : fvl M a 11 13 = .int (M.1 a 13) := rfl
theorem fv_11_16 {M : Mem} {a : Nat} : fvl M a 11 16 = .int (M.1 a 16) := rfl
theorem fv_11_19 {M : Mem} {a : Nat} : fvl M a 11 19 = .int (M.1 a 19) := rfl
theorem fv_11_17 {M : Mem} {a : Nat} : fvl M a 11 17 = .int (M.1 a 17) := rfl
theorem fv_11_15 {M : Mem} {a : Nat} : fvl M a 11 15 = .int (M.1 a 15) := rfl
theorem fv_11_18 {M : Mem} {a : Nat} : fvl M a 11 18 = .int (M.1 a 18) := rfl
theorem fv_11_10 {M : Mem} {a : Nat} : fvl M a 11 10 = .int (M.1 a 10) := rfl
theorem fv_11_3 {M : Mem} {a : Nat} : fvl M a 11 3 = .ref (a + 3) := rfl
theorem fv_11_5 {M : Mem} {a : Nat} : fvl M a 11 5 = .ref (a + 5) := rfl
theorem fv_11_6 {M : Mem} {a : Nat} : fvl M a 11 6 = .ref (a + 6) := rfl
theorem fv_11_0 {M : Mem} {a : Nat} : fvl M a 11 0 = .ref (a + 1) := rfl
theorem fv_11_4 {M : Mem} {a : Nat} : fvl M a 11 4 = .ref (a + 4) := rfl
theorem fv_11_1 {M : Mem} {a : Nat} : fvl M a 11 1 = .ref (a + 2) := rfl
theorem fv_11_28 {M : Mem} {a : Nat} : fvl M a 11 28 = .ref (a + 14) := rfl
theorem fv_11_8 {M : Mem} {a : Nat} : fvl M a 11 8 = .ref (a + 8) := rfl
theorem lf_RX11_121 : FL RX11 121 11 2 := ⟨_, _, _, rfl, rfl, by decide, gin 1429 (by decide +kernel) rfl⟩
theorem lp_RX11_121 : FP RX11 121 11 2 .int := ⟨_, _, _, rfl, rfl, by decide, gin 1429 (by decide +kernel) rfl, rfl, by decide +kernel⟩
theorem ll_RX11_130 : Cond.methodLink RX11 130 yJ9_max_7cf53 ∈ gw := gin 1731 (by decide +kernel) rfl
theorem ll_RX11_124 : Cond.methodLink RX11 124 yJ9_min_7cf53 ∈ gw := gin 1639 (by decide +kernel) rfl
theorem lf_RX11_133 : FL RX11 133 11 12 := ⟨_, _, _, rfl, rfl, by decide, gin 1439 (by decide +kernel) rfl⟩
theorem lf_RX11_62 : FL RX11 62 11 11 := ⟨_, _, _, rfl, rfl, by decide, gin 1438 (by decide +kernel) rfl⟩
theorem lp_RX11_133 : FP RX11 133 11 12 .int := ⟨_, _, _, rfl, rfl, by decide, gin 1439 (by decide +kernel) rfl, rfl, by decide +kernel⟩
theorem lf_RX11_136 : FL RX11 136 11 14 := ⟨_, _, _, rfl, rfl, by decide, gin 1441 (by decide +kernel) rfl⟩
theorem lf_RX11_138 : FL RX11 138 11 13 := ⟨_, _, _, rfl, rfl, by decide, gin 1440 (by decide +kernel) rfl⟩
theorem lp_RX11_138 : FP RX11 138 11 13 .int := ⟨_, _, _, rfl, rfl, by decide, gin 1440 (by decide +kernel) rfl, rfl, by decide +kernel⟩
theorem lp_RX11_145 : FP RX11 145 11 17 .int := ⟨_, _, _, rfl, rfl, by decide, gin 1444 (by decide +kernel) rfl, rfl, by decide +kernel⟩
theorem lp_RX11_165 : FP RX11 165 11 18 .int := ⟨_, _, _, rfl, rfl, by decide, gin 1445 (by decide +kernel) rfl, rfl, by decide +kernel⟩
theorem lp_RX11_148 : FP RX11 148 11 15 .int := ⟨_, _, _, rfl, rfl, by decide, gin 1442 (by decide +kernel) rfl, rfl, by decide +kernel⟩
theorem lm_X11_isMark : lkM yX11_isMark cX11_isMark 1 (some .boolean) 1 := ⟨gin 1642 (by decide +kernel) rfl, gin 102 (by decide +kernel) rfl, by decide +kernel⟩
theorem ls_m_X11_isMark : Cond.static yX11_isMark ∈ gw := gin 1641 (by decide +kernel) rfl
theorem ll_RX11_162 : Cond.methodLink RX11 162 yX11_isMark ∈ gw := gin 1640 (by decide +kernel) rfl
theorem lp_RX11_158 : FP RX11 158 11 16 .int := ⟨_, _, _, rfl, rfl, by decide, gin 1443 (by decide +kernel) rfl, rfl, by decide +kernel⟩
theorem li_RX11_161 : Jvm.Cond.constant RX11 161 (100000 : Int32) ∈ gw := gin 1638 (by decide +kernel) rfl
theorem lf_RX11_158 : FL RX11 158 11 16 := ⟨_, _, _, rfl, rfl, by decide, gin 1443 (by decide +kernel) rfl⟩
theorem lm_X11_byteAt : lkM yX11_byteAt cX11_byteAt 2 (some .int) 1 := ⟨gin 1631 (by decide +kernel) rfl, gin 102 (by decide +kernel) rfl, by decide +kernel⟩
theorem lv_m_X11_byteAt : Cond.instanceMethod yX11_byteAt ∈ gw ∧ Cond.selects (yX11_byteAt).cls yX11_byteAt yX11_byteAt ∈ gw := ⟨gin 1630 (by decide +kernel) rfl, gin 38 (by decide +kernel) rfl⟩
theorem ll_RX11_141 : Cond.methodLink RX11 141 yX11_byteAt ∈ gw := gin 1628 (by decide +kernel) rfl
theorem lc_11 : ∃ T N, vwCl[11]? = some (RX11, T, N) := ⟨_, _, rfl⟩
theorem lm_X11_isDigit : lkM yX11_isDigit cX11_isDigit 1 (some .boolean) 1 := ⟨gin 1637 (by decide +kernel) rfl, gin 102 (by decide +kernel) rfl, by decide +kernel⟩
theorem ls_m_X11_isDigit : Cond.static yX11_isDigit ∈ gw := gin 1636 (by decide +kernel) rfl
theorem ll_RX11_155 : Cond.methodLink RX11 155 yX11_isDigit ∈ gw := gin 1635 (by decide +kernel) rfl
theorem lm_X11_isLetter : lkM yX11_isLetter cX11_isLetter 1 (some .boolean) 1 := ⟨gin 1634 (by decide +kernel) rfl, gin 102 (by decide +kernel) rfl, by decide +kernel⟩
theorem ls_m_X11_isLetter : Cond.static yX11_isLetter ∈ gw := gin 1633 (by decide +kernel) rfl
theorem ll_RX11_151 : Cond.methodLink RX11 151 yX11_isLetter ∈ gw := gin 1632 (by decide +kernel) rfl
theorem lf_RX11_168 : FL RX11 168 11 19 := ⟨_, _, _, rfl, rfl, by decide, gin 1446 (by decide +kernel) rfl⟩
theorem lp_RX11_168 : FP RX11 168 11 19 .int := ⟨_, _, _, rfl, rfl, by decide, gin 1446 (by decide +kernel) rfl, rfl, by decide +kernel⟩
theorem lf_RX11_145 : FL RX11 145 11 17 := ⟨_, _, _, rfl, rfl, by decide, gin 1444 (by decide +kernel) rfl⟩
theorem lp_RX11_171 : FP RX11 171 11 20 .int := ⟨_, _, _, rfl, rfl, by decide, gin 1447 (by decide +kernel) rfl, rfl, by decide +kernel⟩
theorem ll_RX11_174 : Cond.methodLink RX11 174 yJ0_length_8abf5 ∈ gw := gin 1655 (by decide +kernel) rfl
theorem ll_RX11_178 : Cond.methodLink RX11 178 yJ0_charAt_5068e ∈ gw := gin 1656 (by decide +kernel) rfl
theorem lf_RX11_148 : FL RX11 148 11 15 := ⟨_, _, _, rfl, rfl, by decide, gin 1442 (by decide +kernel) rfl⟩
theorem lf_RX11_165 : FL RX11 165 11 18 := ⟨_, _, _, rfl, rfl, by decide, gin 1445 (by decide +kernel) rfl⟩
theorem lm_X11_is : lkM yX11_is cX11_is 4 (some .boolean) 1 := ⟨gin 1654 (by decide +kernel) rfl, gin 102 (by decide +kernel) rfl, by decide +kernel⟩
theorem lv_m_X11_is : Cond.instanceMethod yX11_is ∈ gw ∧ Cond.selects (yX11_is).cls yX11_is yX11_is ∈ gw := ⟨gin 1653 (by decide +kernel) rfl, gin 41 (by decide +kernel) rfl⟩
theorem ll_RX11_182 : Cond.methodLink RX11 182 yX11_is ∈ gw := gin 1651 (by decide +kernel) rfl
theorem lm_X11_stepOn : lkM yX11_stepOn cX11_stepOn 2 none 0 := ⟨gin 1627 (by decide +kernel) rfl, gin 102 (by decide +kernel) rfl, by decide +kernel⟩
theorem lv_m_X11_stepOn : Cond.instanceMethod yX11_stepOn ∈ gw ∧ Cond.selects (yX11_stepOn).cls yX11_stepOn yX11_stepOn ∈ gw := ⟨gin 1626 (by decide +kernel) rfl, gin 37 (by decide +kernel) rfl⟩
theorem ll_RX11_193 : Cond.methodLink RX11 193 yX11_stepOn ∈ gw := gin 1624 (by decide +kernel) rfl
theorem lm_X11_wrong : lkM yX11_wrong cX11_wrong 2 none 1 := ⟨gin 1660 (by decide +kernel) rfl, gin 102 (by decide +kernel) rfl, by decide +kernel⟩
theorem lv_m_X11_wrong : Cond.instanceMethod yX11_wrong ∈ gw ∧ Cond.selects (yX11_wrong).cls yX11_wrong yX11_wrong ∈ gw := ⟨gin 1659 (by decide +kernel) rfl, gin 42 (by decide +kernel) rfl⟩
theorem ll_RX11_189 : Cond.methodLink RX11 189 yX11_wrong ∈ gw := gin 1657 (by decide +kernel) rfl
theorem lm_X11_isMarked : lkM yX11_isMarked cX11_isMarked 2 (some .boolean) 1 := ⟨gin 1675 (by decide +kernel) rfl, gin 102 (by decide +kernel) rfl, by decide +kernel⟩
theorem lv_m_X11_isMarked : Cond.instanceMethod yX11_isMarked ∈ gw ∧ Cond.selects (yX11_isMarked).cls yX11_isMarked yX11_isMarked ∈ gw := ⟨gin 1674 (by decide +kernel) rfl, gin 45 (by decide +kernel) rfl⟩
theorem ll_RX11_186 : Cond.methodLink RX11 186 yX11_isMarked ∈ gw := gin 1672 (by decide +kernel) rfl
theorem lf_RX11_196 : FL RX11 196 11 10 := ⟨_, _, _, rfl, rfl, by decide, gin 1437 (by decide +kernel) rfl⟩
theorem lf_RX11_44 : FL RX11 44 11 3 := ⟨_, _, _, rfl, rfl, by decide, gin 1430 (by decide +kernel) rfl⟩
theorem lf_RX11_50 : FL RX11 50 11 5 := ⟨_, _, _, rfl, rfl, by decide, gin 1432 (by decide +kernel) rfl⟩
theorem lf_RX11_53 : FL RX11 53 11 6 := ⟨_, _, _, rfl, rfl, by decide, gin 1433 (by decide +kernel) rfl⟩
theorem lm_X11_lay : lkM yX11_lay cX11_lay 3 none 1 := ⟨gin 1708 (by decide +kernel) rfl, gin 102 (by decide +kernel) rfl, by decide +kernel⟩
theorem lv_m_X11_lay : Cond.instanceMethod yX11_lay ∈ gw ∧ Cond.selects (yX11_lay).cls yX11_lay yX11_lay ∈ gw := ⟨gin 1707 (by decide +kernel) rfl, gin 53 (by decide +kernel) rfl⟩
theorem ll_RX11_203 : Cond.methodLink RX11 203 yX11_lay ∈ gw := gin 1705 (by decide +kernel) rfl
theorem lm_X11_readAnd : lkM yX11_readAnd cX11_readAnd 2 none 1 := ⟨gin 1687 (by decide +kernel) rfl, gin 102 (by decide +kernel) rfl, by decide +kernel⟩
theorem lv_m_X11_readAnd : Cond.instanceMethod yX11_readAnd ∈ gw ∧ Cond.selects (yX11_readAnd).cls yX11_readAnd yX11_readAnd ∈ gw := ⟨gin 1686 (by decide +kernel) rfl, gin 48 (by decide +kernel) rfl⟩
theorem ll_RX11_232 : Cond.methodLink RX11 232 yX11_readAnd ∈ gw := gin 1684 (by decide +kernel) rfl
theorem lm_X11_readNot : lkM yX11_readNot cX11_readNot 4 none 1 := ⟨gin 1691 (by decide +kernel) rfl, gin 102 (by decide +kernel) rfl, by decide +kernel⟩
theorem lv_m_X11_readNot : Cond.instanceMethod yX11_readNot ∈ gw ∧ Cond.selects (yX11_readNot).cls yX11_readNot yX11_readNot ∈ gw := ⟨gin 1690 (by decide +kernel) rfl, gin 49 (by decide +kernel) rfl⟩
theorem ll_RX11_227 : Cond.methodLink RX11 227 yX11_readNot ∈ gw := gin 1688 (by decide +kernel) rfl
theorem lm_X11_readSum : lkM yX11_readSum cX11_readSum 3 none 1 := ⟨gin 1696 (by decide +kernel) rfl, gin 102 (by decide +kernel) rfl, by decide +kernel⟩
theorem lv_m_X11_readSum : Cond.instanceMethod yX11_readSum ∈ gw ∧ Cond.selects (yX11_readSum).cls yX11_readSum yX11_readSum ∈ gw := ⟨gin 1695 (by decide +kernel) rfl, gin 50 (by decide +kernel) rfl⟩
theorem ll_RX11_224 : Cond.methodLink RX11 224 yX11_readSum ∈ gw := gin 1693 (by decide +kernel) rfl
theorem lm_X11_readProduct : lkM yX11_readProduct cX11_readProduct 3 none 1 := ⟨gin 1700 (by decide +kernel) rfl, gin 102 (by decide +kernel) rfl, by decide +kernel⟩
theorem lv_m_X11_readProduct : Cond.instanceMethod yX11_readProduct ∈ gw ∧ Cond.selects (yX11_readProduct).cls yX11_readProduct yX11_readProduct ∈ gw := ⟨gin 1699 (by decide +kernel) rfl, gin 51 (by decide +kernel) rfl⟩
theorem ll_RX11_219 : Cond.methodLink RX11 219 yX11_readProduct ∈ gw := gin 1697 (by decide +kernel) rfl
theorem lm_X11_readPart : lkM yX11_readPart cX11_readPart 3 none 1 := ⟨gin 1704 (by decide +kernel) rfl, gin 102 (by decide +kernel) rfl, by decide +kernel⟩
theorem lv_m_X11_readPart : Cond.instanceMethod yX11_readPart ∈ gw ∧ Cond.selects (yX11_readPart).cls yX11_readPart yX11_readPart ∈ gw := ⟨gin 1703 (by decide +kernel) rfl, gin 52 (by decide +kernel) rfl⟩
theorem ll_RX11_216 : Cond.methodLink RX11 216 yX11_readPart ∈ gw := gin 1701 (by decide +kernel) rfl
theorem lm_X11_mark : lkM yX11_mark cX11_mark 2 none 1 := ⟨gin 1712 (by decide +kernel) rfl, gin 102 (by decide +kernel) rfl, by decide +kernel⟩
theorem lv_m_X11_mark : Cond.instanceMethod yX11_mark ∈ gw ∧ Cond.selects (yX11_mark).cls yX11_mark yX11_mark ∈ gw := ⟨gin 1711 (by decide +kernel) rfl, gin 54 (by decide +kernel) rfl⟩
theorem ll_RX11_210 : Cond.methodLink RX11 210 yX11_mark ∈ gw := gin 1709 (by decide +kernel) rfl
theorem lm_X11_readExpression : lkM yX11_readExpression cX11_readExpression 3 none 1 := ⟨gin 1683 (by decide +kernel) rfl, gin 102 (by decide +kernel) rfl, by decide +kernel⟩
theorem lv_m_X11_readExpression : Cond.instanceMethod yX11_readExpression ∈ gw ∧ Cond.selects (yX11_readExpression).cls yX11_readExpression yX11_readExpression ∈ gw := ⟨gin 1682 (by decide +kernel) rfl, gin 47 (by decide +kernel) rfl⟩
theorem ll_RX11_213 : Cond.methodLink RX11 213 yX11_readExpression ∈ gw := gin 1680 (by decide +kernel) rfl
theorem lf_RX11_19 : FL RX11 19 11 0 := ⟨_, _, _, rfl, rfl, by decide, gin 1427 (by decide +kernel) rfl⟩
theorem lm_X11_which : lkM yX11_which cX11_which 3 (some .int) 1 := ⟨gin 1650 (by decide +kernel) rfl, gin 102 (by decide +kernel) rfl, by decide +kernel⟩
theorem lv_m_X11_which : Cond.instanceMethod yX11_which ∈ gw ∧ Cond.selects (yX11_which).cls yX11_which yX11_which ∈ gw := ⟨gin 1649 (by decide +kernel) rfl, gin 40 (by decide +kernel) rfl⟩
theorem ll_RX11_206 : Cond.methodLink RX11 206 yX11_which ∈ gw := gin 1647 (by decide +kernel) rfl
theorem lm_X11_readNumber : lkM yX11_readNumber cX11_readNumber 4 (some .int) 2 := ⟨gin 1671 (by decide +kernel) rfl, gin 102 (by decide +kernel) rfl, by decide +kernel⟩
theorem lv_m_X11_readNumber : Cond.instanceMethod yX11_readNumber ∈ gw ∧ Cond.selects (yX11_readNumber).cls yX11_readNumber yX11_readNumber ∈ gw := ⟨gin 1670 (by decide +kernel) rfl, gin 44 (by decide +kernel) rfl⟩
theorem ll_RX11_200 : Cond.methodLink RX11 200 yX11_readNumber ∈ gw := gin 1668 (by decide +kernel) rfl
theorem lf_RX11_48 : FL RX11 48 11 4 := ⟨_, _, _, rfl, rfl, by decide, gin 1431 (by decide +kernel) rfl⟩
theorem lp_RX11_196 : FP RX11 196 11 10 .boolean := ⟨_, _, _, rfl, rfl, by decide, gin 1437 (by decide +kernel) rfl, rfl, by decide +kernel⟩
theorem lm_X11_readWord : lkM yX11_readWord cX11_readWord 2 none 0 := ⟨gin 1679 (by decide +kernel) rfl, gin 102 (by decide +kernel) rfl, by decide +kernel⟩
theorem lv_m_X11_readWord : Cond.instanceMethod yX11_readWord ∈ gw ∧ Cond.selects (yX11_readWord).cls yX11_readWord yX11_readWord ∈ gw := ⟨gin 1678 (by decide +kernel) rfl, gin 46 (by decide +kernel) rfl⟩
theorem ll_RX11_237 : Cond.methodLink RX11 237 yX11_readWord ∈ gw := gin 1676 (by decide +kernel) rfl
theorem lf_RX11_41 : FL RX11 41 11 1 := ⟨_, _, _, rfl, rfl, by decide, gin 1428 (by decide +kernel) rfl⟩
theorem lm_X11_readClause : lkM yX11_readClause cX11_readClause 4 none 1 := ⟨gin 1667 (by decide +kernel) rfl, gin 102 (by decide +kernel) rfl, by decide +kernel⟩
theorem lv_m_X11_readClause : Cond.instanceMethod yX11_readClause ∈ gw ∧ Cond.selects (yX11_readClause).cls yX11_readClause yX11_readClause ∈ gw := ⟨gin 1666 (by decide +kernel) rfl, gin 43 (by decide +kernel) rfl⟩
theorem ll_RX11_244 : Cond.methodLink RX11 244 yX11_readClause ∈ gw := gin 1664 (by decide +kernel) rfl
theorem lm_X11_isOf : lkM yX11_isOf cX11_isOf 2 (some .boolean) 2 := ⟨gin 1663 (by decide +kernel) rfl, gin 102 (by decide +kernel) rfl, by decide +kernel⟩
theorem ls_m_X11_isOf : Cond.static yX11_isOf ∈ gw := gin 1662 (by decide +kernel) rfl
theorem ll_RX11_240 : Cond.methodLink RX11 240 yX11_isOf ∈ gw := gin 1661 (by decide +kernel) rfl
theorem lf_RX11_81 : FL RX11 81 11 28 := ⟨_, _, _, rfl, rfl, by decide, gin 1455 (by decide +kernel) rfl⟩
theorem lf_RX11_59 : FL RX11 59 11 8 := ⟨_, _, _, rfl, rfl, by decide, gin 1435 (by decide +kernel) rfl⟩
theorem lp_RX11_266 : FP RX11 266 11 24 .int := ⟨_, _, _, rfl, rfl, by decide, gin 1451 (by decide +kernel) rfl, rfl, by decide +kernel⟩
theorem lp_RX11_269 : FP RX11 269 11 25 .int := ⟨_, _, _, rfl, rfl, by decide, gin 1452 (by decide +kernel) rfl, rfl, by decide +kernel⟩
theorem lp_RX11_278 : FP RX11 278 11 31 .int := ⟨_, _, _, rfl, rfl, by decide, gin 1458 (by decide +kernel) rfl, rfl, by decide +kernel⟩
theorem lp_RX11_281 : FP RX11 281 11 32 .int := ⟨_, _, _, rfl, rfl, by decide, gin 1459 (by decide +kernel) rfl, rfl, by decide +kernel⟩
theorem lp_RX11_284 : FP RX11 284 11 44 .boolean := ⟨_, _, _, rfl, rfl, by decide, gin 1471 (by decide +kernel) rfl, rfl, by decide +kernel⟩
theorem lm_X11_emptySlots : lkM yX11_emptySlots cX11_emptySlots 2 none 0 := ⟨gin 1619 (by decide +kernel) rfl, gin 102 (by decide +kernel) rfl, by decide +kernel⟩
theorem lv_m_X11_emptySlots : Cond.instanceMethod yX11_emptySlots ∈ gw ∧ Cond.selects (yX11_emptySlots).cls yX11_emptySlots yX11_emptySlots ∈ gw := ⟨gin 1618 (by decide +kernel) rfl, gin 35 (by decide +kernel) rfl⟩
theorem ll_RX11_275 : Cond.methodLink RX11 275 yX11_emptySlots ∈ gw := gin 1616 (by decide +kernel) rfl
theorem lm_X11_forgetGiven : lkM yX11_forgetGiven cX11_forgetGiven 2 none 0 := ⟨gin 1615 (by decide +kernel) rfl, gin 102 (by decide +kernel) rfl, by decide +kernel⟩
theorem lv_m_X11_forgetGiven : Cond.instanceMethod yX11_forgetGiven ∈ gw ∧ Cond.selects (yX11_forgetGiven).cls yX11_forgetGiven yX11_forgetGiven ∈ gw := ⟨gin 1614 (by decide +kernel) rfl, gin 34 (by decide +kernel) rfl⟩
theorem ll_RX11_272 : Cond.methodLink RX11 272 yX11_forgetGiven ∈ gw := gin 1612 (by decide +kernel) rfl
theorem lm_X11_takeHalf : lkM yX11_takeHalf cX11_takeHalf 2 none 1 := ⟨gin 1611 (by decide +kernel) rfl, gin 102 (by decide +kernel) rfl, by decide +kernel⟩
theorem ls_m_X11_takeHalf : Cond.static yX11_takeHalf ∈ gw := gin 1610 (by decide +kernel) rfl
theorem ll_RX11_262 : Cond.methodLink RX11 262 yX11_takeHalf ∈ gw := gin 1609 (by decide +kernel) rfl
def f_X11_thrown (t : Nat) (M : Mem) : Option (Int32 × Mem) :=
  some (M.1 t 2, M)
set_option maxRecDepth 20000 in
theorem c_X11_thrown {G : Ctx} (hW : WFG G) {t : Nat} {M M' : Mem} {r : Int32} (h0 : hs G t (0, 11)) (hf : f_X11_thrown t M = some (r, M')) : Ct G yX11_thrown cX11_thrown 1 (some .int) 0 0 [.ref t] M (some (.int r)) M' := by
  refine ct_i hW (by decide +kernel) (Nat.le_of_ble_eq_true rfl) (fun w h hr => ?_)
  have h : Rb G cX11_thrown RX11 1 0 0 w := h
  refine (?_ : E (fun q => q = (r, M')) (f_X11_thrown t M) (w M 0 [(0, .ref t)] [])) _ hf rfl
  unfold f_X11_thrown
  refine E.m (h.aload_n 0 dX11_thrown_0 rfl) ?_
  refine E.m (h.get h0 lf_RX11_121 dX11_thrown_1 fv_11_2) ?_
  exact E.some (ret_i hr rfl dX11_thrown_4)
def f_X11_fail (t : Nat) (x1_ : Int32) (M : Mem) : Option (Int32 × Mem) :=
  nm (wi M t 2 x1_) (fun M1 => some ((0 : Int32), M1))
set_option maxRecDepth 20000 in
theorem c_X11_fail {G : Ctx} (hW : WFG G) {t : Nat} {x1_ : Int32} {M M' : Mem} {r : Int32} (h0 : hs G t (0, 11)) (hf : f_X11_fail t x1_ M = some (r, M')) : Ct G yX11_fail cX11_fail 2 (some .int) 0 0 [.ref t, .int x1_] M (some (.int r)) M' := by
  refine ct_i hW (by decide +kernel) (Nat.le_of_ble_eq_true rfl) (fun w h hr => ?_)
  have h : Rb G cX11_fail RX11 2 0 0 w := h
  refine (?_ : E (fun q => q = (r, M')) (f_X11_fail t x1_ M) (w M 0 [(0, .ref t), (1, .int x1_)] [])) _ hf rfl
  unfold f_X11_fail
  refine E.m (h.aload_n 0 dX11_fail_0 rfl) ?_
  refine E.m (h.iload_n 1 dX11_fail_1 rfl) ?_
  refine E.m (h.puti h0 lp_RX11_121 rfl dX11_fail_2) ?_
  refine E.nmM (fun M1 => ?_)
  refine E.m (h.iconst (v := (0 : Int32)) dX11_fail_5 (by decide)) ?_
  exact E.some (ret_i hr rfl dX11_fail_6)
def f_X11_isIn (x1_ : Int64) (x2_ : Int64) (x3_ : Int64) (M : Mem) : Option (Int32 × Mem) :=
  jn1 (fun z1 => gdp (z1 = 0 ∨ z1 = 1) (some (z1, M))) (fun J18 => jn0 (fun _ => J18 (0 : Int32)) (fun J17 => if (lg_cmp x1_ x2_) < 0 then (J17 ()) else (if 0 < (lg_cmp x1_ x3_) then (J17 ()) else (J18 (1 : Int32)))))
set_option maxRecDepth 20000 in
theorem c_X11_isIn {G : Ctx} (hW : WFG G) {x1_ : Int64} {x2_ : Int64} {x3_ : Int64} {M M' : Mem} {r : Int32} (hf : f_X11_isIn x1_ x2_ x3_ M = some (r, M')) : Ct G yX11_isIn cX11_isIn 6 (some .boolean) 0 0 [.long x1_, .long x2_, .long x3_] M (some (.int r)) M' := by
  refine ct_i hW (by decide +kernel) (Nat.le_of_ble_eq_true rfl) (fun w h hr => ?_)
  have h : Rb G cX11_isIn RX11 6 0 0 w := h
  refine (?_ : E (fun q => q = (r, M')) (f_X11_isIn x1_ x2_ x3_ M) (w M 0 [(0, .long x1_), (2, .long x2_), (4, .long x3_)] [])) _ hf rfl
  unfold f_X11_isIn
  refine E.m (h.lload_n 0 dX11_isIn_0 rfl) ?_
  refine E.m (h.lload_n 1 dX11_isIn_1 rfl) ?_
  refine E.m (h.lcmp dX11_isIn_2) ?_
  refine E.join1 (fun z1 => w M 18 [(0, .long x1_), (2, .long x2_), (4, .long x3_)] [.int z1]) (fun z1 => ?_) (fun J18 hJ18 => ?_)
  · refine E.gd (fun hc k => k hc) (fun hc => E.imp fun hc => ?_)
    exact E.some (ret_i hr (bl_n hc).1 dX11_isIn_18)
  refine E.join0 (fun _ => w M 17 [(0, .long x1_), (2, .long x2_), (4, .long x3_)] []) (fun _ => ?_) (fun J17 hJ17 => ?_)
  · refine E.m (h.iconst (v := (0 : Int32)) dX11_isIn_17 (by decide)) ?_
    exact hJ18 _
  refine E.br (fun k1 k2 => h.if_lt (tgt := 17) dX11_isIn_3 (by decide) k1 k2) ?_ ?_
  · exact hJ17 ()
  · refine E.m (h.lload_n 0 dX11_isIn_6 rfl) ?_
    refine E.m (h.lload 2 dX11_isIn_7 rfl) ?_
    refine E.m (h.lcmp dX11_isIn_9) ?_
    refine E.br (fun k1 k2 => h.if_gt (tgt := 17) dX11_isIn_10 (by decide) k1 k2) ?_ ?_
    · exact hJ17 ()
    · refine E.m (h.iconst (v := (1 : Int32)) dX11_isIn_13 (by decide)) ?_
      refine E.m (h.goto (tgt := 18) dX11_isIn_14 (by decide)) ?_
      exact hJ18 _
def f_X11_isOf (x1_ : Int32) (x2_ : Int32) (M : Mem) : Option (Int32 × Mem) :=
  jn1 (fun z1 => gdp (z1 = 0 ∨ z1 = 1) (some (z1, M))) (fun J14 => if ((x1_ >>> (x2_ &&& 31)) &&& (1 : Int32)) = (1 : Int32) then (J14 (1 : Int32)) else (J14 (0 : Int32)))
set_option maxRecDepth 20000 in
theorem c_X11_isOf {G : Ctx} (hW : WFG G) {x1_ : Int32} {x2_ : Int32} {M M' : Mem} {r : Int32} (hf : f_X11_isOf x1_ x2_ M = some (r, M')) : Ct G yX11_isOf cX11_isOf 2 (some .boolean) 0 0 [.int x1_, .int x2_] M (some (.int r)) M' := by
  refine ct_i hW (by decide +kernel) (Nat.le_of_ble_eq_true rfl) (fun w h hr => ?_)
  have h : Rb G cX11_isOf RX11 2 0 0 w := h
  refine (?_ : E (fun q => q = (r, M')) (f_X11_isOf x1_ x2_ M) (w M 0 [(0, .int x1_), (1, .int x2_)] [])) _ hf rfl
  unfold f_X11_isOf
  refine E.m (h.iload_n 0 dX11_isOf_0 rfl) ?_
  refine E.m (h.iload_n 1 dX11_isOf_1 rfl) ?_
  refine E.m (h.ishr dX11_isOf_2) ?_
  refine E.m (h.iconst (v := (1 : Int32)) dX11_isOf_3 (by decide)) ?_
  refine E.m (h.iand dX11_isOf_4) ?_
  refine E.m (h.iconst (v := (1 : Int32)) dX11_isOf_5 (by decide)) ?_
  refine E.join1 (fun z1 => w M 14 [(0, .int x1_), (1, .int x2_)] [.int z1]) (fun z1 => ?_) (fun J14 hJ14 => ?_)
  · refine E.gd (fun hc k => k hc) (fun hc => E.imp fun hc => ?_)
    exact E.some (ret_i hr (bl_n hc).1 dX11_isOf_14)
  refine E.br (fun k1 k2 => h.icmp_ne (tgt := 13) dX11_isOf_6 (by decide) k2 k1) ?_ ?_
  · refine E.m (h.iconst (v := (1 : Int32)) dX11_isOf_9 (by decide)) ?_
    refine E.m (h.goto (tgt := 14) dX11_isOf_10 (by decide)) ?_
    exact hJ14 _
  · refine E.m (h.iconst (v := (0 : Int32)) dX11_isOf_13 (by decide)) ?_
    exact hJ14 _
def f_X11_within (x1_ : Int32) (x2_ : Int32) (x3_ : Int32) (M : Mem) : Option (Int32 × Mem) :=
  bd (f_J9_min_7cf53 x3_ x1_ M) (fun u1 M2 => bd (f_J9_max_7cf53 x2_ u1 M2) (fun u3 M4 => some (u3, M4)))
set_option maxRecDepth 20000 in
theorem c_X11_within {G : Ctx} (hW : WFG G) {x1_ : Int32} {x2_ : Int32} {x3_ : Int32} {M M' : Mem} {r : Int32} (hf : f_X11_within x1_ x2_ x3_ M = some (r, M')) : Ct G yX11_within cX11_within 3 (some .int) 1 21 [.int x1_, .int x2_, .int x3_] M (some (.int r)) M' := by
  refine ct_i hW (by decide +kernel) (Nat.le_of_ble_eq_true rfl) (fun w h hr => ?_)
  have h : Rb G cX11_within RX11 3 1 21 w := h
  refine (?_ : E (fun q => q = (r, M')) (f_X11_within x1_ x2_ x3_ M) (w M 0 [(0, .int x1_), (1, .int x2_), (2, .int x3_)] [])) _ hf rfl
  unfold f_X11_within
  refine E.m (h.iload_n 1 dX11_within_0 rfl) ?_
  refine E.m (h.iload_n 2 dX11_within_1 rfl) ?_
  refine E.m (h.iload_n 0 dX11_within_2 rfl) ?_
  refine E.bnd (fun u1 M2 => w M2 6 [(0, .int x1_), (1, .int x2_), (2, .int x3_)] [.int u1, .int x2_]) (fun u1 M2 hf k => h.callS (As := [.int x3_, .int x1_]) (rest := [.int x2_]) (c_J9_min_7cf53 hW hf) lm_J9_min_7cf53 ls_m_J9_min_7cf53 ll_RX11_124 rfl rfl (Nat.le_of_ble_eq_true rfl) (by decide) dX11_within_3 rfl k) (fun u1 M2 => ?_)
  refine E.bnd (fun u3 M4 => w M4 9 [(0, .int x1_), (1, .int x2_), (2, .int x3_)] [.int u3]) (fun u3 M4 hf k => h.callS (As := [.int x2_, .int u1]) (rest := []) (c_J9_max_7cf53 hW hf) lm_J9_max_7cf53 ls_m_J9_max_7cf53 ll_RX11_130 rfl rfl (Nat.le_of_ble_eq_true rfl) (by decide) dX11_within_6 rfl k) (fun u3 M4 => ?_)
  exact E.some (ret_i hr rfl dX11_within_9)
def l_X11_feed_23 (t : Nat) (x1_ : Int32) (x2_ : Int32) (x3_ : Int32) (x4_ : Int32) (x5_ : Int32) (k2 : Int32) (M3 : Mem) : Option ((Int32 × Mem) ⊕ (Int32 × Mem)) :=
  if (20 : Int32) ≤ k2 then (some (.inr (M3.1 t 12, M3))) else (jn1 (fun z4 => gdi (M3.1 t 12) 700 (nm (wi M3 (t + 9) (M3.1 t 12).toNatClampNeg ((z4 >>> (((24 : Int32) - ((8 : Int32) * (k2 - k2 / (4 : Int32) * (4 : Int32)))) &&& 31)) &&& (255 : Int32))) (fun M5 => nm (wi M5 t 12 ((M5.1 t 12) + (1 : Int32))) (fun M6 => nm (k2 + (1 : Int32)) (fun y7 => some (.inl (y7, M6))))))) (fun J76 => if (4 : Int32) ≤ k2 then (if (8 : Int32) ≤ k2 then (if (12 : Int32) ≤ k2 then (if (16 : Int32) ≤ k2 then (J76 x5_) else (J76 x4_)) else (J76 x3_)) else (J76 x2_)) else (J76 x1_)))
def f_X11_feed (t : Nat) (x1_ : Int32) (x2_ : Int32) (x3_ : Int32) (x4_ : Int32) (x5_ : Int32) (M : Mem) : Option (Int32 × Mem) :=
  nm (wi M t 2 (0 : Int32)) (fun M1 => if ((M1.1 t 12) + (20 : Int32)) ≤ (700 : Int32) then (lop2 FU (l_X11_feed_23 t x1_ x2_ x3_ x4_ x5_) (0 : Int32) M1) else (some ((-1 : Int32), M1)))
set_option maxRecDepth 20000 in
theorem c_X11_feed {G : Ctx} (hW : WFG G) {t : Nat} {x1_ : Int32} {x2_ : Int32} {x3_ : Int32} {x4_ : Int32} {x5_ : Int32} {M M' : Mem} {r : Int32} (h0 : hs G t (0, 11)) (hf : f_X11_feed t x1_ x2_ x3_ x4_ x5_ M = some (r, M')) : Ct G yX11_feed cX11_feed 8 (some .int) 0 0 [.ref t, .int x1_, .int x2_, .int x3_, .int x4_, .int x5_] M (some (.int r)) M' := by
  refine ct_i hW (by decide +kernel) (Nat.le_of_ble_eq_true rfl) (fun w h hr => ?_)
  have h : Rb G cX11_feed RX11 8 0 0 w := h
  refine (?_ : E (fun q => q = (r, M')) (f_X11_feed t x1_ x2_ x3_ x4_ x5_ M) (w M 0 [(0, .ref t), (1, .int x1_), (2, .int x2_), (3, .int x3_), (4, .int x4_), (5, .int x5_)] [])) _ hf rfl
  unfold f_X11_feed
  refine E.m (h.aload_n 0 dX11_feed_0 rfl) ?_
  refine E.m (h.iconst (v := (0 : Int32)) dX11_feed_1 (by decide)) ?_
  refine E.m (h.puti h0 lp_RX11_121 rfl dX11_feed_2) ?_
  refine E.nmM (fun M1 => ?_)
  refine E.m (h.aload_n 0 dX11_feed_5 rfl) ?_
  refine E.m (h.get h0 lf_RX11_133 dX11_feed_6 fv_11_12) ?_
  refine E.m (h.bipush (v := (20 : Int32)) dX11_feed_9 (by decide)) ?_
  refine E.m (h.iadd dX11_feed_11) ?_
  refine E.m (h.sipush (v := (700 : Int32)) dX11_feed_12 (by decide)) ?_
  refine E.br (fun k1 k2 => h.icmp_le (tgt := 20) dX11_feed_15 (by decide) k1 k2) ?_ ?_
  · refine E.m (h.iconst (v := (0 : Int32)) dX11_feed_20 (by decide)) ?_
    refine E.m (h.istore dX11_feed_21 (by decide) rfl) ?_
    refine E.m (h.sub [1, 2, 3, 4, 5, 6, 0] rfl) ?_
    refine E.loop2 (fun k2 M3 => w M3 23 [(0, .ref t), (1, .int x1_), (2, .int x2_), (3, .int x3_), (4, .int x4_), (5, .int x5_), (6, .int k2)] []) (fun k2 M3 => ?_) _ _ _
    unfold l_X11_feed_23
    refine E.m (h.iload 6 dX11_feed_23 rfl) ?_
    refine E.m (h.bipush (v := (20 : Int32)) dX11_feed_25 (by decide)) ?_
    refine E.br (fun k1 k2 => h.icmp_ge (tgt := 120) dX11_feed_27 (by decide) k1 k2) ?_ ?_
    · refine E.m (h.aload_n 0 dX11_feed_120 rfl) ?_
      refine E.m (h.get h0 lf_RX11_133 dX11_feed_121 fv_11_12) ?_
      exact E.some (ret_i hr rfl dX11_feed_124)
    · refine E.m (h.iload 6 dX11_feed_30 rfl) ?_
      refine E.m (h.iconst (v := (4 : Int32)) dX11_feed_32 (by decide)) ?_
      refine E.join1 (fun z4 => w M3 76 [(0, .ref t), (1, .int x1_), (2, .int x2_), (3, .int x3_), (4, .int x4_), (5, .int x5_), (6, .int k2)] [.int z4]) (fun z4 => ?_) (fun J76 hJ76 => ?_)
      · refine E.m (h.istore dX11_feed_76 (by decide) rfl) ?_
        refine E.m (h.aload_n 1 dX11_feed_78 rfl) ?_
        refine E.m (h.get h0 lf_RX11_62 dX11_feed_79 fv_11_11) ?_
        refine E.m (h.aload_n 1 dX11_feed_82 rfl) ?_
        refine E.m (h.get h0 lf_RX11_133 dX11_feed_83 fv_11_12) ?_
        refine E.m (h.iload 0 dX11_feed_86 rfl) ?_
        refine E.m (h.bipush (v := (24 : Int32)) dX11_feed_88 (by decide)) ?_
        refine E.m (h.bipush (v := (8 : Int32)) dX11_feed_90 (by decide)) ?_
        refine E.m (h.iload 7 dX11_feed_92 rfl) ?_
        refine E.m (h.iconst (v := (4 : Int32)) dX11_feed_94 (by decide)) ?_
        refine E.m (h.irem (by decide) dX11_feed_95) ?_
        refine E.m (h.imul dX11_feed_96) ?_
        refine E.m (h.isub dX11_feed_97) ?_
        refine E.m (h.ishr dX11_feed_98) ?_
        refine E.m (h.sipush (v := (255 : Int32)) dX11_feed_99 (by decide)) ?_
        refine E.m (h.iand dX11_feed_102) ?_
        refine E.gi (fun hi k => h.iast (hW.clo 48 h0 rfl) hi dX11_feed_103 k) ?_
        refine E.nmM (fun M5 => ?_)
        refine E.m (h.aload_n 1 dX11_feed_104 rfl) ?_
        refine E.m (h.dup dX11_feed_105 rfl) ?_
        refine E.m (h.get h0 lf_RX11_133 dX11_feed_106 fv_11_12) ?_
        refine E.m (h.iconst (v := (1 : Int32)) dX11_feed_109 (by decide)) ?_
        refine E.m (h.iadd dX11_feed_110) ?_
        refine E.m (h.puti h0 lp_RX11_133 rfl dX11_feed_111) ?_
        refine E.nmM (fun M6 => ?_)
        refine E.m (h.iinc (v := (1 : Int32)) 7 dX11_feed_114 rfl (by decide) (by decide) rfl) ?_
        refine E.nmL (fun y7 => ?_)
        refine E.m (h.goto (tgt := 23) dX11_feed_117 (by decide)) ?_
        refine E.m (h.sub [2, 3, 4, 5, 6, 7, 0] rfl) ?_
        exact E.some (fun q => q)
      refine E.br (fun k1 k2 => h.icmp_ge (tgt := 40) dX11_feed_33 (by decide) k1 k2) ?_ ?_
      · refine E.m (h.iload 6 dX11_feed_40 rfl) ?_
        refine E.m (h.bipush (v := (8 : Int32)) dX11_feed_42 (by decide)) ?_
        refine E.br (fun k1 k2 => h.icmp_ge (tgt := 51) dX11_feed_44 (by decide) k1 k2) ?_ ?_
        · refine E.m (h.iload 6 dX11_feed_51 rfl) ?_
          refine E.m (h.bipush (v := (12 : Int32)) dX11_feed_53 (by decide)) ?_
          refine E.br (fun k1 k2 => h.icmp_ge (tgt := 62) dX11_feed_55 (by decide) k1 k2) ?_ ?_
          · refine E.m (h.iload 6 dX11_feed_62 rfl) ?_
            refine E.m (h.bipush (v := (16 : Int32)) dX11_feed_64 (by decide)) ?_
            refine E.br (fun k1 k2 => h.icmp_ge (tgt := 74) dX11_feed_66 (by decide) k1 k2) ?_ ?_
            · refine E.m (h.iload 5 dX11_feed_74 rfl) ?_
              exact hJ76 _
            · refine E.m (h.iload 4 dX11_feed_69 rfl) ?_
              refine E.m (h.goto (tgt := 76) dX11_feed_71 (by decide)) ?_
              exact hJ76 _
          · refine E.m (h.iload_n 3 dX11_feed_58 rfl) ?_
            refine E.m (h.goto (tgt := 76) dX11_feed_59 (by decide)) ?_
            exact hJ76 _
        · refine E.m (h.iload_n 2 dX11_feed_47 rfl) ?_
          refine E.m (h.goto (tgt := 76) dX11_feed_48 (by decide)) ?_
          exact hJ76 _
      · refine E.m (h.iload_n 1 dX11_feed_36 rfl) ?_
        refine E.m (h.goto (tgt := 76) dX11_feed_37 (by decide)) ?_
        exact hJ76 _
  · refine E.m (h.iconst (v := (-1 : Int32)) dX11_feed_18 (by decide)) ?_
    exact E.some (ret_i hr rfl dX11_feed_19)
def f_X11_byteAt (t : Nat) (x1_ : Int32) (M : Mem) : Option (Int32 × Mem) :=
  jn1 (fun z1 => some (z1, M)) (fun J18 => if (M.1 t 14) ≤ x1_ then (J18 (-1 : Int32)) else (gdi x1_ 700 (J18 (M.1 (t + 9) x1_.toNatClampNeg))))
set_option maxRecDepth 20000 in
theorem c_X11_byteAt {G : Ctx} (hW : WFG G) {t : Nat} {x1_ : Int32} {M M' : Mem} {r : Int32} (h0 : hs G t (0, 11)) (hf : f_X11_byteAt t x1_ M = some (r, M')) : Ct G yX11_byteAt cX11_byteAt 2 (some .int) 0 0 [.ref t, .int x1_] M (some (.int r)) M' := by
  refine ct_i hW (by decide +kernel) (Nat.le_of_ble_eq_true rfl) (fun w h hr => ?_)
  have h : Rb G cX11_byteAt RX11 2 0 0 w := h
  refine (?_ : E (fun q => q = (r, M')) (f_X11_byteAt t x1_ M) (w M 0 [(0, .ref t), (1, .int x1_)] [])) _ hf rfl
  unfold f_X11_byteAt
  refine E.m (h.iload_n 1 dX11_byteAt_0 rfl) ?_
  refine E.m (h.aload_n 0 dX11_byteAt_1 rfl) ?_
  refine E.m (h.get h0 lf_RX11_136 dX11_byteAt_2 fv_11_14) ?_
  refine E.join1 (fun z1 => w M 18 [(0, .ref t), (1, .int x1_)] [.int z1]) (fun z1 => ?_) (fun J18 hJ18 => ?_)
  · exact E.some (ret_i hr rfl dX11_byteAt_18)
  refine E.br (fun k1 k2 => h.icmp_ge (tgt := 17) dX11_byteAt_5 (by decide) k1 k2) ?_ ?_
  · refine E.m (h.iconst (v := (-1 : Int32)) dX11_byteAt_17 (by decide)) ?_
    exact hJ18 _
  · refine E.m (h.aload_n 0 dX11_byteAt_8 rfl) ?_
    refine E.m (h.get h0 lf_RX11_62 dX11_byteAt_9 fv_11_11) ?_
    refine E.m (h.iload_n 1 dX11_byteAt_12 rfl) ?_
    refine E.gi (fun hi k => h.iald (hW.clo 48 h0 rfl) hi dX11_byteAt_13 k) ?_
    refine E.m (h.goto (tgt := 18) dX11_byteAt_14 (by decide)) ?_
    exact hJ18 _
def f_X11_isLetter (x1_ : Int32) (M : Mem) : Option (Int32 × Mem) :=
  jn1 (fun z1 => gdp (z1 = 0 ∨ z1 = 1) (some (z1, M))) (fun J17 => jn0 (fun _ => J17 (0 : Int32)) (fun J16 => if x1_ < (97 : Int32) then (J16 ()) else (if (122 : Int32) < x1_ then (J16 ()) else (J17 (1 : Int32)))))
set_option maxRecDepth 20000 in
theorem c_X11_isLetter {G : Ctx} (hW : WFG G) {x1_ : Int32} {M M' : Mem} {r : Int32} (hf : f_X11_isLetter x1_ M = some (r, M')) : Ct G yX11_isLetter cX11_isLetter 1 (some .boolean) 0 0 [.int x1_] M (some (.int r)) M' := by
  refine ct_i hW (by decide +kernel) (Nat.le_of_ble_eq_true rfl) (fun w h hr => ?_)
  have h : Rb G cX11_isLetter RX11 1 0 0 w := h
  refine (?_ : E (fun q => q = (r, M')) (f_X11_isLetter x1_ M) (w M 0 [(0, .int x1_)] [])) _ hf rfl
  unfold f_X11_isLetter
  refine E.m (h.iload_n 0 dX11_isLetter_0 rfl) ?_
  refine E.m (h.bipush (v := (97 : Int32)) dX11_isLetter_1 (by decide)) ?_
  refine E.join1 (fun z1 => w M 17 [(0, .int x1_)] [.int z1]) (fun z1 => ?_) (fun J17 hJ17 => ?_)
  · refine E.gd (fun hc k => k hc) (fun hc => E.imp fun hc => ?_)
    exact E.some (ret_i hr (bl_n hc).1 dX11_isLetter_17)
  refine E.join0 (fun _ => w M 16 [(0, .int x1_)] []) (fun _ => ?_) (fun J16 hJ16 => ?_)
  · refine E.m (h.iconst (v := (0 : Int32)) dX11_isLetter_16 (by decide)) ?_
    exact hJ17 _
  refine E.br (fun k1 k2 => h.icmp_lt (tgt := 16) dX11_isLetter_3 (by decide) k1 k2) ?_ ?_
  · exact hJ16 ()
  · refine E.m (h.iload_n 0 dX11_isLetter_6 rfl) ?_
    refine E.m (h.bipush (v := (122 : Int32)) dX11_isLetter_7 (by decide)) ?_
    refine E.br (fun k1 k2 => h.icmp_gt (tgt := 16) dX11_isLetter_9 (by decide) k1 k2) ?_ ?_
    · exact hJ16 ()
    · refine E.m (h.iconst (v := (1 : Int32)) dX11_isLetter_12 (by decide)) ?_
      refine E.m (h.goto (tgt := 17) dX11_isLetter_13 (by decide)) ?_
      exact hJ17 _
def f_X11_isDigit (x1_ : Int32) (M : Mem) : Option (Int32 × Mem) :=
  jn1 (fun z1 => gdp (z1 = 0 ∨ z1 = 1) (some (z1, M))) (fun J17 => jn0 (fun _ => J17 (0 : Int32)) (fun J16 => if x1_ < (48 : Int32) then (J16 ()) else (if (57 : Int32) < x1_ then (J16 ()) else (J17 (1 : Int32)))))
set_option maxRecDepth 20000 in
theorem c_X11_isDigit {G : Ctx} (hW : WFG G) {x1_ : Int32} {M M' : Mem} {r : Int32} (hf : f_X11_isDigit x1_ M = some (r, M')) : Ct G yX11_isDigit cX11_isDigit 1 (some .boolean) 0 0 [.int x1_] M (some (.int r)) M' := by
  refine ct_i hW (by decide +kernel) (Nat.le_of_ble_eq_true rfl) (fun w h hr => ?_)
  have h : Rb G cX11_isDigit RX11 1 0 0 w := h
  refine (?_ : E (fun q => q = (r, M')) (f_X11_isDigit x1_ M) (w M 0 [(0, .int x1_)] [])) _ hf rfl
  unfold f_X11_isDigit
  refine E.m (h.iload_n 0 dX11_isDigit_0 rfl) ?_
  refine E.m (h.bipush (v := (48 : Int32)) dX11_isDigit_1 (by decide)) ?_
  refine E.join1 (fun z1 => w M 17 [(0, .int x1_)] [.int z1]) (fun z1 => ?_) (fun J17 hJ17 => ?_)
  · refine E.gd (fun hc k => k hc) (fun hc => E.imp fun hc => ?_)
    exact E.some (ret_i hr (bl_n hc).1 dX11_isDigit_17)
  refine E.join0 (fun _ => w M 16 [(0, .int x1_)] []) (fun _ => ?_) (fun J16 hJ16 => ?_)
  · refine E.m (h.iconst (v := (0 : Int32)) dX11_isDigit_16 (by decide)) ?_
    exact hJ17 _
  refine E.br (fun k1 k2 => h.icmp_lt (tgt := 16) dX11_isDigit_3 (by decide) k1 k2) ?_ ?_
  · exact hJ16 ()
  · refine E.m (h.iload_n 0 dX11_isDigit_6 rfl) ?_
    refine E.m (h.bipush (v := (57 : Int32)) dX11_isDigit_7 (by decide)) ?_
    refine E.br (fun k1 k2 => h.icmp_gt (tgt := 16) dX11_isDigit_9 (by decide) k1 k2) ?_ ?_
    · exact hJ16 ()
    · refine E.m (h.iconst (v := (1 : Int32)) dX11_isDigit_12 (by decide)) ?_
      refine E.m (h.goto (tgt := 17) dX11_isDigit_13 (by decide)) ?_
      exact hJ17 _
def f_X11_isMark (x1_ : Int32) (M : Mem) : Option (Int32 × Mem) :=
  jn1 (fun z1 => gdp (z1 = 0 ∨ z1 = 1) (some (z1, M))) (fun J59 => jn0 (fun _ => J59 (1 : Int32)) (fun J54 => if x1_ = (59 : Int32) then (J54 ()) else (if x1_ = (40 : Int32) then (J54 ()) else (if x1_ = (41 : Int32) then (J54 ()) else (if x1_ = (43 : Int32) then (J54 ()) else (if x1_ = (45 : Int32) then (J54 ()) else (if x1_ = (42 : Int32) then (J54 ()) else (if x1_ = (47 : Int32) then (J54 ()) else (if x1_ = (60 : Int32) then (J54 ()) else (if x1_ = (61 : Int32) then (J54 ()) else (J59 (0 : Int32))))))))))))
set_option maxRecDepth 20000 in
theorem c_X11_isMark {G : Ctx} (hW : WFG G) {x1_ : Int32} {M M' : Mem} {r : Int32} (hf : f_X11_isMark x1_ M = some (r, M')) : Ct G yX11_isMark cX11_isMark 1 (some .boolean) 0 0 [.int x1_] M (some (.int r)) M' := by
  refine ct_i hW (by decide +kernel) (Nat.le_of_ble_eq_true rfl) (fun w h hr => ?_)
  have h : Rb G cX11_isMark RX11 1 0 0 w := h
  refine (?_ : E (fun q => q = (r, M')) (f_X11_isMark x1_ M) (w M 0 [(0, .int x1_)] [])) _ hf rfl
  unfold f_X11_isMark
  refine E.m (h.iload_n 0 dX11_isMark_0 rfl) ?_
  refine E.m (h.bipush (v := (59 : Int32)) dX11_isMark_1 (by decide)) ?_
  refine E.join1 (fun z1 => w M 59 [(0, .int x1_)] [.int z1]) (fun z1 => ?_) (fun J59 hJ59 => ?_)
  · refine E.gd (fun hc k => k hc) (fun hc => E.imp fun hc => ?_)
    exact E.some (ret_i hr (bl_n hc).1 dX11_isMark_59)
  refine E.join0 (fun _ => w M 54 [(0, .int x1_)] []) (fun _ => ?_) (fun J54 hJ54 => ?_)
  · refine E.m (h.iconst (v := (1 : Int32)) dX11_isMark_54 (by decide)) ?_
    refine E.m (h.goto (tgt := 59) dX11_isMark_55 (by decide)) ?_
    exact hJ59 _
  refine E.br (fun k1 k2 => h.icmp_eq (tgt := 54) dX11_isMark_3 (by decide) k1 k2) ?_ ?_
  · exact hJ54 ()
  · refine E.m (h.iload_n 0 dX11_isMark_6 rfl) ?_
    refine E.m (h.bipush (v := (40 : Int32)) dX11_isMark_7 (by decide)) ?_
    refine E.br (fun k1 k2 => h.icmp_eq (tgt := 54) dX11_isMark_9 (by decide) k1 k2) ?_ ?_
    · exact hJ54 ()
    · refine E.m (h.iload_n 0 dX11_isMark_12 rfl) ?_
      refine E.m (h.bipush (v := (41 : Int32)) dX11_isMark_13 (by decide)) ?_
      refine E.br (fun k1 k2 => h.icmp_eq (tgt := 54) dX11_isMark_15 (by decide) k1 k2) ?_ ?_
      · exact hJ54 ()
      · refine E.m (h.iload_n 0 dX11_isMark_18 rfl) ?_
        refine E.m (h.bipush (v := (43 : Int32)) dX11_isMark_19 (by decide)) ?_
        refine E.br (fun k1 k2 => h.icmp_eq (tgt := 54) dX11_isMark_21 (by decide) k1 k2) ?_ ?_
        · exact hJ54 ()
        · refine E.m (h.iload_n 0 dX11_isMark_24 rfl) ?_
          refine E.m (h.bipush (v := (45 : Int32)) dX11_isMark_25 (by decide)) ?_
          refine E.br (fun k1 k2 => h.icmp_eq (tgt := 54) dX11_isMark_27 (by decide) k1 k2) ?_ ?_
          · exact hJ54 ()
          · refine E.m (h.iload_n 0 dX11_isMark_30 rfl) ?_
            refine E.m (h.bipush (v := (42 : Int32)) dX11_isMark_31 (by decide)) ?_
            refine E.br (fun k1 k2 => h.icmp_eq (tgt := 54) dX11_isMark_33 (by decide) k1 k2) ?_ ?_
            · exact hJ54 ()
            · refine E.m (h.iload_n 0 dX11_isMark_36 rfl) ?_
              refine E.m (h.bipush (v := (47 : Int32)) dX11_isMark_37 (by decide)) ?_
              refine E.br (fun k1 k2 => h.icmp_eq (tgt := 54) dX11_isMark_39 (by decide) k1 k2) ?_ ?_
              · exact hJ54 ()
              · refine E.m (h.iload_n 0 dX11_isMark_42 rfl) ?_
                refine E.m (h.bipush (v := (60 : Int32)) dX11_isMark_43 (by decide)) ?_
                refine E.br (fun k1 k2 => h.icmp_eq (tgt := 54) dX11_isMark_45 (by decide) k1 k2) ?_ ?_
                · exact hJ54 ()
                · refine E.m (h.iload_n 0 dX11_isMark_48 rfl) ?_
                  refine E.m (h.bipush (v := (61 : Int32)) dX11_isMark_49 (by decide)) ?_
                  refine E.br (fun k1 k2 => h.icmp_ne (tgt := 58) dX11_isMark_51 (by decide) k2 k1) ?_ ?_
                  · exact hJ54 ()
                  · refine E.m (h.iconst (v := (0 : Int32)) dX11_isMark_58 (by decide)) ?_
                    exact hJ59 _
def l_X11_stepOn_123 (t : Nat) (J212 : Mem → Option ((Mem) ⊕ (Unit × Mem))) (M23 : Mem) : Option ((Mem) ⊕ ((Mem) ⊕ (Unit × Mem))) :=
  bd (f_X11_byteAt t (M23.1 t 13) M23) (fun u24 M25 => bd (f_X11_isDigit u24 M25) (fun u26 M27 => if u26 = 0 then (nm (wi M27 t 15 (2 : Int32)) (fun M28 => up (J212 M28))) else (bd (f_X11_byteAt t (M27.1 t 13) M27) (fun u29 M30 => bd (f_J9_min_7cf53 (100000 : Int32) ((((10 : Int32) * (M27.1 t 16)) + u29) - (48 : Int32)) M30) (fun u31 M32 => nm (wi M32 t 16 u31) (fun M33 => nm (wi M33 t 13 ((M33.1 t 13) + (1 : Int32))) (fun M34 => some (.inl M34))))))))
def l_X11_stepOn_76 (t : Nat) (J212 : Mem → Option ((Mem) ⊕ (Unit × Mem))) (M35 : Mem) : Option ((Mem) ⊕ ((Mem) ⊕ (Unit × Mem))) :=
  bd (f_X11_byteAt t (M35.1 t 13) M35) (fun u36 M37 => bd (f_X11_isLetter u36 M37) (fun u38 M39 => if u38 = 0 then (nm (wi M39 t 15 (1 : Int32)) (fun M40 => up (J212 M40))) else (nm (wi M39 t 13 ((M39.1 t 13) + (1 : Int32))) (fun M41 => some (.inl M41)))))
def l_X11_stepOn_0 (t : Nat) (M1 : Mem) : Option ((Mem) ⊕ (Unit × Mem)) :=
  bd (f_X11_byteAt t (M1.1 t 13) M1) (fun u2 M3 => jn1 (fun M4 => nm (wi M4 t 13 ((M4.1 t 13) + (1 : Int32))) (fun M5 => some (.inl M5))) (fun J26 => if u2 = (32 : Int32) then (J26 M3) else (bd (f_X11_byteAt t (M3.1 t 13) M3) (fun u6 M7 => if u6 = (10 : Int32) then (J26 M7) else (nm (wi M7 t 17 (M7.1 t 13)) (fun M8 => bd (f_X11_byteAt t (M8.1 t 13) M8) (fun u9 M10 => jn1 (fun M11 => nm (wi M11 t 18 (M11.1 t 13)) (fun M12 => some (.inr ((), M12)))) (fun J212 => if u9 = (-1 : Int32) then (nm (wi M10 t 15 (0 : Int32)) (fun M42 => J212 M42)) else (bd (f_X11_isLetter u9 M10) (fun u13 M14 => if u13 = 0 then (bd (f_X11_isDigit u9 M14) (fun u15 M16 => if u15 = 0 then (nm (wi M16 t 13 ((M16.1 t 13) + (1 : Int32))) (fun M17 => bd (f_X11_isMark u9 M17) (fun u18 M19 => jn1 (fun z20 => nm (wi M19 t 15 z20) (fun M21 => J212 M21)) (fun J209 => if u18 = 0 then (J209 (4 : Int32)) else (J209 (3 : Int32)))))) else (nm (wi M16 t 16 (0 : Int32)) (fun M22 => lop1 FU (l_X11_stepOn_123 t J212) M22)))) else (lop1 FU (l_X11_stepOn_76 t J212) M14)))))))))))
def f_X11_stepOn (t : Nat) (M : Mem) : Option (Unit × Mem) :=
  lop1 FU (l_X11_stepOn_0 t) M
set_option maxRecDepth 20000 in
theorem c_X11_stepOn {G : Ctx} (hW : WFG G) {t : Nat} {M M' : Mem} (h0 : hs G t (0, 11)) (hf : f_X11_stepOn t M = some ((), M')) : Ct G yX11_stepOn cX11_stepOn 2 none 1 21 [.ref t] M none M' := by
  refine ct_v hW (by decide +kernel) (Nat.le_of_ble_eq_true rfl) (fun w h hr => ?_)
  have h : Rb G cX11_stepOn RX11 2 1 21 w := h
  refine (?_ : E (fun q => q = ((), M')) (f_X11_stepOn t M) (w M 0 [(0, .ref t)] [])) _ hf rfl
  unfold f_X11_stepOn
  refine E.loop1 (fun M1 => w M1 0 [(0, .ref t)] []) (fun M1 => ?_) _ _
  unfold l_X11_stepOn_0
  refine E.m (h.aload_n 0 dX11_stepOn_0 rfl) ?_
  refine E.m (h.aload_n 0 dX11_stepOn_1 rfl) ?_
  refine E.m (h.get h0 lf_RX11_138 dX11_stepOn_2 fv_11_13) ?_
  refine E.bnd (fun u2 M3 => w M3 8 [(0, .ref t)] [.int u2]) (fun u2 M3 hf k => h.callV (As := [.int (M1.1 t 13)]) (rest := []) (c_X11_byteAt hW h0 hf) lm_X11_byteAt lv_m_X11_byteAt ll_RX11_141 h0 lc_11 rfl rfl (Nat.le_of_ble_eq_true rfl) (by decide) dX11_stepOn_5 rfl k) (fun u2 M3 => ?_)
  refine E.m (h.bipush (v := (32 : Int32)) dX11_stepOn_8 (by decide)) ?_
  refine E.join1 (fun M4 => w M4 26 [(0, .ref t)] []) (fun M4 => ?_) (fun J26 hJ26 => ?_)
  · refine E.m (h.aload_n 0 dX11_stepOn_26 rfl) ?_
    refine E.m (h.dup dX11_stepOn_27 rfl) ?_
    refine E.m (h.get h0 lf_RX11_138 dX11_stepOn_28 fv_11_13) ?_
    refine E.m (h.iconst (v := (1 : Int32)) dX11_stepOn_31 (by decide)) ?_
    refine E.m (h.iadd dX11_stepOn_32) ?_
    refine E.m (h.puti h0 lp_RX11_138 rfl dX11_stepOn_33) ?_
    refine E.nmM (fun M5 => ?_)
    refine E.m (h.goto (tgt := 0) dX11_stepOn_36 (by decide)) ?_
    exact E.some (fun q => q)
  refine E.br (fun k1 k2 => h.icmp_eq (tgt := 26) dX11_stepOn_10 (by decide) k1 k2) ?_ ?_
  · exact hJ26 _
  · refine E.m (h.aload_n 0 dX11_stepOn_13 rfl) ?_
    refine E.m (h.aload_n 0 dX11_stepOn_14 rfl) ?_
    refine E.m (h.get h0 lf_RX11_138 dX11_stepOn_15 fv_11_13) ?_
    refine E.bnd (fun u6 M7 => w M7 21 [(0, .ref t)] [.int u6]) (fun u6 M7 hf k => h.callV (As := [.int (M3.1 t 13)]) (rest := []) (c_X11_byteAt hW h0 hf) lm_X11_byteAt lv_m_X11_byteAt ll_RX11_141 h0 lc_11 rfl rfl (Nat.le_of_ble_eq_true rfl) (by decide) dX11_stepOn_18 rfl k) (fun u6 M7 => ?_)
    refine E.m (h.bipush (v := (10 : Int32)) dX11_stepOn_21 (by decide)) ?_
    refine E.br (fun k1 k2 => h.icmp_ne (tgt := 39) dX11_stepOn_23 (by decide) k2 k1) ?_ ?_
    · exact hJ26 _
    · refine E.m (h.aload_n 0 dX11_stepOn_39 rfl) ?_
      refine E.m (h.aload_n 0 dX11_stepOn_40 rfl) ?_
      refine E.m (h.get h0 lf_RX11_138 dX11_stepOn_41 fv_11_13) ?_
      refine E.m (h.puti h0 lp_RX11_145 rfl dX11_stepOn_44) ?_
      refine E.nmM (fun M8 => ?_)
      refine E.m (h.aload_n 0 dX11_stepOn_47 rfl) ?_
      refine E.m (h.aload_n 0 dX11_stepOn_48 rfl) ?_
      refine E.m (h.get h0 lf_RX11_138 dX11_stepOn_49 fv_11_13) ?_
      refine E.bnd (fun u9 M10 => w M10 55 [(0, .ref t)] [.int u9]) (fun u9 M10 hf k => h.callV (As := [.int (M8.1 t 13)]) (rest := []) (c_X11_byteAt hW h0 hf) lm_X11_byteAt lv_m_X11_byteAt ll_RX11_141 h0 lc_11 rfl rfl (Nat.le_of_ble_eq_true rfl) (by decide) dX11_stepOn_52 rfl k) (fun u9 M10 => ?_)
      refine E.m (h.istore_n dX11_stepOn_55 (by decide) rfl) ?_
      refine E.m (h.iload_n 0 dX11_stepOn_56 rfl) ?_
      refine E.m (h.iconst (v := (-1 : Int32)) dX11_stepOn_57 (by decide)) ?_
      refine E.join1 (fun M11 => w M11 212 [(0, .ref t), (1, .int u9)] []) (fun M11 => ?_) (fun J212 hJ212 => ?_)
      · refine E.m (h.aload_n 0 dX11_stepOn_212 rfl) ?_
        refine E.m (h.aload_n 0 dX11_stepOn_213 rfl) ?_
        refine E.m (h.get h0 lf_RX11_138 dX11_stepOn_214 fv_11_13) ?_
        refine E.m (h.puti h0 lp_RX11_165 rfl dX11_stepOn_217) ?_
        refine E.nmM (fun M12 => ?_)
        exact E.some (ret_v hr dX11_stepOn_220)
      refine E.br (fun k1 k2 => h.icmp_ne (tgt := 69) dX11_stepOn_58 (by decide) k2 k1) ?_ ?_
      · refine E.m (h.aload_n 1 dX11_stepOn_61 rfl) ?_
        refine E.m (h.iconst (v := (0 : Int32)) dX11_stepOn_62 (by decide)) ?_
        refine E.m (h.puti h0 lp_RX11_148 rfl dX11_stepOn_63) ?_
        refine E.nmM (fun M42 => ?_)
        refine E.m (h.goto (tgt := 212) dX11_stepOn_66 (by decide)) ?_
        refine E.m (h.sub [1, 0] rfl) ?_
        exact hJ212 _
      · refine E.m (h.iload_n 0 dX11_stepOn_69 rfl) ?_
        refine E.bnd (fun u13 M14 => w M14 73 [(1, .int u9), (0, .ref t)] [.int u13]) (fun u13 M14 hf k => h.callS (As := [.int u9]) (rest := []) (c_X11_isLetter hW hf) lm_X11_isLetter ls_m_X11_isLetter ll_RX11_151 rfl rfl (Nat.le_of_ble_eq_true rfl) (by decide) dX11_stepOn_70 rfl k) (fun u13 M14 => ?_)
        refine E.br (fun k1 k2 => h.if_eq (tgt := 111) dX11_stepOn_73 (by decide) k1 k2) ?_ ?_
        · refine E.m (h.iload_n 0 dX11_stepOn_111 rfl) ?_
          refine E.bnd (fun u15 M16 => w M16 115 [(1, .int u9), (0, .ref t)] [.int u15]) (fun u15 M16 hf k => h.callS (As := [.int u9]) (rest := []) (c_X11_isDigit hW hf) lm_X11_isDigit ls_m_X11_isDigit ll_RX11_155 rfl rfl (Nat.le_of_ble_eq_true rfl) (by decide) dX11_stepOn_112 rfl k) (fun u15 M16 => ?_)
          refine E.br (fun k1 k2 => h.if_eq (tgt := 186) dX11_stepOn_115 (by decide) k1 k2) ?_ ?_
          · refine E.m (h.aload_n 1 dX11_stepOn_186 rfl) ?_
            refine E.m (h.dup dX11_stepOn_187 rfl) ?_
            refine E.m (h.get h0 lf_RX11_138 dX11_stepOn_188 fv_11_13) ?_
            refine E.m (h.iconst (v := (1 : Int32)) dX11_stepOn_191 (by decide)) ?_
            refine E.m (h.iadd dX11_stepOn_192) ?_
            refine E.m (h.puti h0 lp_RX11_138 rfl dX11_stepOn_193) ?_
            refine E.nmM (fun M17 => ?_)
            refine E.m (h.aload_n 1 dX11_stepOn_196 rfl) ?_
            refine E.m (h.iload_n 0 dX11_stepOn_197 rfl) ?_
            refine E.bnd (fun u18 M19 => w M19 201 [(1, .int u9), (0, .ref t)] [.int u18, .ref t]) (fun u18 M19 hf k => h.callS (As := [.int u9]) (rest := [.ref t]) (c_X11_isMark hW hf) lm_X11_isMark ls_m_X11_isMark ll_RX11_162 rfl rfl (Nat.le_of_ble_eq_true rfl) (by decide) dX11_stepOn_198 rfl k) (fun u18 M19 => ?_)
            refine E.join1 (fun z20 => w M19 209 [(0, .ref t), (1, .int u9)] [.int z20, .ref t]) (fun z20 => ?_) (fun J209 hJ209 => ?_)
            · refine E.m (h.puti h0 lp_RX11_148 rfl dX11_stepOn_209) ?_
              refine E.nmM (fun M21 => ?_)
              exact hJ212 _
            refine E.br (fun k1 k2 => h.if_eq (tgt := 208) dX11_stepOn_201 (by decide) k1 k2) ?_ ?_
            · refine E.m (h.iconst (v := (4 : Int32)) dX11_stepOn_208 (by decide)) ?_
              refine E.m (h.sub [1, 0] rfl) ?_
              exact hJ209 _
            · refine E.m (h.iconst (v := (3 : Int32)) dX11_stepOn_204 (by decide)) ?_
              refine E.m (h.goto (tgt := 209) dX11_stepOn_205 (by decide)) ?_
              refine E.m (h.sub [1, 0] rfl) ?_
              exact hJ209 _
          · refine E.m (h.aload_n 1 dX11_stepOn_118 rfl) ?_
            refine E.m (h.iconst (v := (0 : Int32)) dX11_stepOn_119 (by decide)) ?_
            refine E.m (h.puti h0 lp_RX11_158 rfl dX11_stepOn_120) ?_
            refine E.nmM (fun M22 => ?_)
            refine E.m (h.sub [1, 0] rfl) ?_
            refine E.loop1 (fun M23 => w M23 123 [(0, .ref t), (1, .int u9)] []) (fun M23 => ?_) _ _
            unfold l_X11_stepOn_123
            refine E.m (h.aload_n 0 dX11_stepOn_123 rfl) ?_
            refine E.m (h.aload_n 0 dX11_stepOn_124 rfl) ?_
            refine E.m (h.get h0 lf_RX11_138 dX11_stepOn_125 fv_11_13) ?_
            refine E.bnd (fun u24 M25 => w M25 131 [(0, .ref t), (1, .int u9)] [.int u24]) (fun u24 M25 hf k => h.callV (As := [.int (M23.1 t 13)]) (rest := []) (c_X11_byteAt hW h0 hf) lm_X11_byteAt lv_m_X11_byteAt ll_RX11_141 h0 lc_11 rfl rfl (Nat.le_of_ble_eq_true rfl) (by decide) dX11_stepOn_128 rfl k) (fun u24 M25 => ?_)
            refine E.bnd (fun u26 M27 => w M27 134 [(0, .ref t), (1, .int u9)] [.int u26]) (fun u26 M27 hf k => h.callS (As := [.int u24]) (rest := []) (c_X11_isDigit hW hf) lm_X11_isDigit ls_m_X11_isDigit ll_RX11_155 rfl rfl (Nat.le_of_ble_eq_true rfl) (by decide) dX11_stepOn_131 rfl k) (fun u26 M27 => ?_)
            refine E.br (fun k1 k2 => h.if_eq (tgt := 178) dX11_stepOn_134 (by decide) k1 k2) ?_ ?_
            · refine E.m (h.aload_n 0 dX11_stepOn_178 rfl) ?_
              refine E.m (h.iconst (v := (2 : Int32)) dX11_stepOn_179 (by decide)) ?_
              refine E.m (h.puti h0 lp_RX11_148 rfl dX11_stepOn_180) ?_
              refine E.nmM (fun M28 => ?_)
              refine E.m (h.goto (tgt := 212) dX11_stepOn_183 (by decide)) ?_
              exact E.up (fun _ q => q) (hJ212 _)
            · refine E.m (h.aload_n 0 dX11_stepOn_137 rfl) ?_
              refine E.m (h.ldc li_RX11_161 dX11_stepOn_138) ?_
              refine E.m (h.bipush (v := (10 : Int32)) dX11_stepOn_140 (by decide)) ?_
              refine E.m (h.aload_n 0 dX11_stepOn_142 rfl) ?_
              refine E.m (h.get h0 lf_RX11_158 dX11_stepOn_143 fv_11_16) ?_
              refine E.m (h.imul dX11_stepOn_146) ?_
              refine E.m (h.aload_n 0 dX11_stepOn_147 rfl) ?_
              refine E.m (h.aload_n 0 dX11_stepOn_148 rfl) ?_
              refine E.m (h.get h0 lf_RX11_138 dX11_stepOn_149 fv_11_13) ?_
              refine E.bnd (fun u29 M30 => w M30 155 [(0, .ref t), (1, .int u9)] [.int u29, .int ((10 : Int32) * (M27.1 t 16)), .int (100000 : Int32), .ref t]) (fun u29 M30 hf k => h.callV (As := [.int (M27.1 t 13)]) (rest := [.int ((10 : Int32) * (M27.1 t 16)), .int (100000 : Int32), .ref t]) (c_X11_byteAt hW h0 hf) lm_X11_byteAt lv_m_X11_byteAt ll_RX11_141 h0 lc_11 rfl rfl (Nat.le_of_ble_eq_true rfl) (by decide) dX11_stepOn_152 rfl k) (fun u29 M30 => ?_)
              refine E.m (h.iadd dX11_stepOn_155) ?_
              refine E.m (h.bipush (v := (48 : Int32)) dX11_stepOn_156 (by decide)) ?_
              refine E.m (h.isub dX11_stepOn_158) ?_
              refine E.bnd (fun u31 M32 => w M32 162 [(0, .ref t), (1, .int u9)] [.int u31, .ref t]) (fun u31 M32 hf k => h.callS (As := [.int (100000 : Int32), .int ((((10 : Int32) * (M27.1 t 16)) + u29) - (48 : Int32))]) (rest := [.ref t]) (c_J9_min_7cf53 hW hf) lm_J9_min_7cf53 ls_m_J9_min_7cf53 ll_RX11_124 rfl rfl (Nat.le_of_ble_eq_true rfl) (by decide) dX11_stepOn_159 rfl k) (fun u31 M32 => ?_)
              refine E.m (h.puti h0 lp_RX11_158 rfl dX11_stepOn_162) ?_
              refine E.nmM (fun M33 => ?_)
              refine E.m (h.aload_n 0 dX11_stepOn_165 rfl) ?_
              refine E.m (h.dup dX11_stepOn_166 rfl) ?_
              refine E.m (h.get h0 lf_RX11_138 dX11_stepOn_167 fv_11_13) ?_
              refine E.m (h.iconst (v := (1 : Int32)) dX11_stepOn_170 (by decide)) ?_
              refine E.m (h.iadd dX11_stepOn_171) ?_
              refine E.m (h.puti h0 lp_RX11_138 rfl dX11_stepOn_172) ?_
              refine E.nmM (fun M34 => ?_)
              refine E.m (h.goto (tgt := 123) dX11_stepOn_175 (by decide)) ?_
              exact E.some (fun q => q)
        · refine E.m (h.sub [1, 0] rfl) ?_
          refine E.loop1 (fun M35 => w M35 76 [(0, .ref t), (1, .int u9)] []) (fun M35 => ?_) _ _
          unfold l_X11_stepOn_76
          refine E.m (h.aload_n 0 dX11_stepOn_76 rfl) ?_
          refine E.m (h.aload_n 0 dX11_stepOn_77 rfl) ?_
          refine E.m (h.get h0 lf_RX11_138 dX11_stepOn_78 fv_11_13) ?_
          refine E.bnd (fun u36 M37 => w M37 84 [(0, .ref t), (1, .int u9)] [.int u36]) (fun u36 M37 hf k => h.callV (As := [.int (M35.1 t 13)]) (rest := []) (c_X11_byteAt hW h0 hf) lm_X11_byteAt lv_m_X11_byteAt ll_RX11_141 h0 lc_11 rfl rfl (Nat.le_of_ble_eq_true rfl) (by decide) dX11_stepOn_81 rfl k) (fun u36 M37 => ?_)
          refine E.bnd (fun u38 M39 => w M39 87 [(0, .ref t), (1, .int u9)] [.int u38]) (fun u38 M39 hf k => h.callS (As := [.int u36]) (rest := []) (c_X11_isLetter hW hf) lm_X11_isLetter ls_m_X11_isLetter ll_RX11_151 rfl rfl (Nat.le_of_ble_eq_true rfl) (by decide) dX11_stepOn_84 rfl k) (fun u38 M39 => ?_)
          refine E.br (fun k1 k2 => h.if_eq (tgt := 103) dX11_stepOn_87 (by decide) k1 k2) ?_ ?_
          · refine E.m (h.aload_n 0 dX11_stepOn_103 rfl) ?_
            refine E.m (h.iconst (v := (1 : Int32)) dX11_stepOn_104 (by decide)) ?_
            refine E.m (h.puti h0 lp_RX11_148 rfl dX11_stepOn_105) ?_
            refine E.nmM (fun M40 => ?_)
            refine E.m (h.goto (tgt := 212) dX11_stepOn_108 (by decide)) ?_
            exact E.up (fun _ q => q) (hJ212 _)
          · refine E.m (h.aload_n 0 dX11_stepOn_90 rfl) ?_
            refine E.m (h.dup dX11_stepOn_91 rfl) ?_
            refine E.m (h.get h0 lf_RX11_138 dX11_stepOn_92 fv_11_13) ?_
            refine E.m (h.iconst (v := (1 : Int32)) dX11_stepOn_95 (by decide)) ?_
            refine E.m (h.iadd dX11_stepOn_96) ?_
            refine E.m (h.puti h0 lp_RX11_138 rfl dX11_stepOn_97) ?_
            refine E.nmM (fun M41 => ?_)
            refine E.m (h.goto (tgt := 76) dX11_stepOn_100 (by decide)) ?_
            exact E.some (fun q => q)
def f_X11_wrong (t : Nat) (x1_ : Int32) (M : Mem) : Option (Unit × Mem) :=
  if (M.1 t 19) = 0 then (nm (wi M t 19 x1_) (fun M1 => nm (wi M1 t 20 (M1.1 t 17)) (fun M2 => some ((), M2)))) else (some ((), M))
set_option maxRecDepth 20000 in
theorem c_X11_wrong {G : Ctx} (hW : WFG G) {t : Nat} {x1_ : Int32} {M M' : Mem} (h0 : hs G t (0, 11)) (hf : f_X11_wrong t x1_ M = some ((), M')) : Ct G yX11_wrong cX11_wrong 2 none 0 0 [.ref t, .int x1_] M none M' := by
  refine ct_v hW (by decide +kernel) (Nat.le_of_ble_eq_true rfl) (fun w h hr => ?_)
  have h : Rb G cX11_wrong RX11 2 0 0 w := h
  refine (?_ : E (fun q => q = ((), M')) (f_X11_wrong t x1_ M) (w M 0 [(0, .ref t), (1, .int x1_)] [])) _ hf rfl
  unfold f_X11_wrong
  refine E.m (h.aload_n 0 dX11_wrong_0 rfl) ?_
  refine E.m (h.get h0 lf_RX11_168 dX11_wrong_1 fv_11_19) ?_
  refine E.br (fun k1 k2 => h.if_eq (tgt := 8) dX11_wrong_4 (by decide) k1 k2) ?_ ?_
  · refine E.m (h.aload_n 0 dX11_wrong_8 rfl) ?_
    refine E.m (h.iload_n 1 dX11_wrong_9 rfl) ?_
    refine E.m (h.puti h0 lp_RX11_168 rfl dX11_wrong_10) ?_
    refine E.nmM (fun M1 => ?_)
    refine E.m (h.aload_n 0 dX11_wrong_13 rfl) ?_
    refine E.m (h.aload_n 0 dX11_wrong_14 rfl) ?_
    refine E.m (h.get h0 lf_RX11_145 dX11_wrong_15 fv_11_17) ?_
    refine E.m (h.puti h0 lp_RX11_171 rfl dX11_wrong_18) ?_
    refine E.nmM (fun M2 => ?_)
    exact E.some (ret_v hr dX11_wrong_21)
  · exact E.some (ret_v hr dX11_wrong_7)
def l_X11_is_39 (t : Nat) (s1_ : Nat) (k3 : Int32) (k4 : Int32) (M5 : Mem) : Option ((Int32 × Int32 × Mem) ⊕ (Int32 × Mem)) :=
  jn1 (fun M6 => gdp (k3 = 0 ∨ k3 = 1) (some (.inr (k3, M6)))) (fun J82 => if k3 = 0 then (J82 M5) else (if (Int32.ofNat (sLen.getD s1_ 0)) ≤ k4 then (J82 M5) else (gdi k4 (sLen.getD s1_ 0) (gdi ((M5.1 t 17) + k4) 700 (jn1 (fun z7 => nm (k4 + (1 : Int32)) (fun y8 => some (.inl (z7, y8, M5)))) (fun J75 => if ((sByt.getD s1_ []).getD k4.toNatClampNeg 0) = (M5.1 (t + 9) ((M5.1 t 17) + k4).toNatClampNeg) then (J75 (1 : Int32)) else (J75 (0 : Int32))))))))
def f_X11_is (t : Nat) (s1_ : Nat) (M : Mem) : Option (Int32 × Mem) :=
  jn2 (fun z1 M2 => lop3 FU (l_X11_is_39 t s1_) z1 (0 : Int32) M2) (fun J36 => jn1 (fun M9 => J36 (0 : Int32) M9) (fun J35 => if (M.1 t 19) = 0 then (if (M.1 t 15) = (1 : Int32) then (if (Int32.ofNat (sLen.getD s1_ 0)) = ((M.1 t 18) - (M.1 t 17)) then (J36 (1 : Int32) M) else (J35 M)) else (J35 M)) else (J35 M)))
set_option maxRecDepth 20000 in
theorem c_X11_is {G : Ctx} (hW : WFG G) {t : Nat} {s1_ : Nat} {M M' : Mem} {r : Int32} (h0 : hs G t (0, 11)) (h1 : s1_ < 32) (hf : f_X11_is t s1_ M = some (r, M')) : Ct G yX11_is cX11_is 4 (some .boolean) 12 400 [.ref t, .ref (gaK G s1_)] M (some (.int r)) M' := by
  refine ct_i hW (by decide +kernel) (Nat.le_of_ble_eq_true rfl) (fun w h hr => ?_)
  have h : Rb G cX11_is RX11 4 12 400 w := h
  refine (?_ : E (fun q => q = (r, M')) (f_X11_is t s1_ M) (w M 0 [(0, .ref t), (1, .ref (gaK G s1_))] [])) _ hf rfl
  unfold f_X11_is
  refine E.m (h.aload_n 0 dX11_is_0 rfl) ?_
  refine E.m (h.get h0 lf_RX11_168 dX11_is_1 fv_11_19) ?_
  refine E.join2 (fun z1 M2 => w M2 36 [(0, .ref t), (1, .ref (gaK G s1_))] [.int z1]) (fun z1 M2 => ?_) (fun J36 hJ36 => ?_)
  · refine E.m (h.istore_n dX11_is_36 (by decide) rfl) ?_
    refine E.m (h.iconst (v := (0 : Int32)) dX11_is_37 (by decide)) ?_
    refine E.m (h.istore_n dX11_is_38 (by decide) rfl) ?_
    refine E.m (h.sub [2, 3, 1, 0] rfl) ?_
    refine E.loop3 (fun k3 k4 M5 => w M5 39 [(0, .ref t), (1, .ref (gaK G s1_)), (2, .int k3), (3, .int k4)] []) (fun k3 k4 M5 => ?_) _ _ _ _
    unfold l_X11_is_39
    refine E.m (h.iload_n 2 dX11_is_39 rfl) ?_
    refine E.join1 (fun M6 => w M6 82 [(0, .ref t), (1, .ref (gaK G s1_)), (2, .int k3), (3, .int k4)] []) (fun M6 => ?_) (fun J82 hJ82 => ?_)
    · refine E.m (h.iload_n 2 dX11_is_82 rfl) ?_
      refine E.gd (fun hc k => k hc) (fun hc => E.imp fun hc => ?_)
      exact E.some (ret_i hr (bl_n hc).1 dX11_is_83)
    refine E.br (fun k1 k2 => h.if_eq (tgt := 82) dX11_is_40 (by decide) k1 k2) ?_ ?_
    · exact hJ82 _
    · refine E.m (h.iload_n 3 dX11_is_43 rfl) ?_
      refine E.m (h.aload_n 1 dX11_is_44 rfl) ?_
      refine E.m (h.strLen h1 ll_RX11_174 (Nat.le_of_ble_eq_true rfl) (by decide) dX11_is_45) ?_
      refine E.br (fun k1 k2 => h.icmp_ge (tgt := 82) dX11_is_48 (by decide) k1 k2) ?_ ?_
      · exact hJ82 _
      · refine E.m (h.aload_n 1 dX11_is_51 rfl) ?_
        refine E.m (h.iload_n 3 dX11_is_52 rfl) ?_
        refine E.gi (fun hi k => h.strAt h1 hi ll_RX11_178 (Nat.le_of_ble_eq_true rfl) (by decide) dX11_is_53 k) ?_
        refine E.m (h.aload_n 0 dX11_is_56 rfl) ?_
        refine E.m (h.get h0 lf_RX11_62 dX11_is_57 fv_11_11) ?_
        refine E.m (h.aload_n 0 dX11_is_60 rfl) ?_
        refine E.m (h.get h0 lf_RX11_145 dX11_is_61 fv_11_17) ?_
        refine E.m (h.iload_n 3 dX11_is_64 rfl) ?_
        refine E.m (h.iadd dX11_is_65) ?_
        refine E.gi (fun hi k => h.iald (hW.clo 48 h0 rfl) hi dX11_is_66 k) ?_
        refine E.join1 (fun z7 => w M5 75 [(0, .ref t), (1, .ref (gaK G s1_)), (2, .int k3), (3, .int k4)] [.int z7]) (fun z7 => ?_) (fun J75 hJ75 => ?_)
        · refine E.m (h.istore_n dX11_is_75 (by decide) rfl) ?_
          refine E.m (h.iinc (v := (1 : Int32)) 3 dX11_is_76 rfl (by decide) (by decide) rfl) ?_
          refine E.nmL (fun y8 => ?_)
          refine E.m (h.goto (tgt := 39) dX11_is_79 (by decide)) ?_
          refine E.m (h.sub [2, 3, 1, 0] rfl) ?_
          exact E.some (fun q => q)
        refine E.br (fun k1 k2 => h.icmp_ne (tgt := 74) dX11_is_67 (by decide) k2 k1) ?_ ?_
        · refine E.m (h.iconst (v := (1 : Int32)) dX11_is_70 (by decide)) ?_
          refine E.m (h.goto (tgt := 75) dX11_is_71 (by decide)) ?_
          exact hJ75 _
        · refine E.m (h.iconst (v := (0 : Int32)) dX11_is_74 (by decide)) ?_
          exact hJ75 _
  refine E.join1 (fun M9 => w M9 35 [(0, .ref t), (1, .ref (gaK G s1_))] []) (fun M9 => ?_) (fun J35 hJ35 => ?_)
  · refine E.m (h.iconst (v := (0 : Int32)) dX11_is_35 (by decide)) ?_
    exact hJ36 _ _
  refine E.br (fun k1 k2 => h.if_ne (tgt := 35) dX11_is_4 (by decide) k2 k1) ?_ ?_
  · refine E.m (h.aload_n 0 dX11_is_7 rfl) ?_
    refine E.m (h.get h0 lf_RX11_148 dX11_is_8 fv_11_15) ?_
    refine E.m (h.iconst (v := (1 : Int32)) dX11_is_11 (by decide)) ?_
    refine E.br (fun k1 k2 => h.icmp_ne (tgt := 35) dX11_is_12 (by decide) k2 k1) ?_ ?_
    · refine E.m (h.aload_n 1 dX11_is_15 rfl) ?_
      refine E.m (h.strLen h1 ll_RX11_174 (Nat.le_of_ble_eq_true rfl) (by decide) dX11_is_16) ?_
      refine E.m (h.aload_n 0 dX11_is_19 rfl) ?_
      refine E.m (h.get h0 lf_RX11_165 dX11_is_20 fv_11_18) ?_
      refine E.m (h.aload_n 0 dX11_is_23 rfl) ?_
      refine E.m (h.get h0 lf_RX11_145 dX11_is_24 fv_11_17) ?_
      refine E.m (h.isub dX11_is_27) ?_
      refine E.br (fun k1 k2 => h.icmp_ne (tgt := 35) dX11_is_28 (by decide) k2 k1) ?_ ?_
      · refine E.m (h.iconst (v := (1 : Int32)) dX11_is_31 (by decide)) ?_
        refine E.m (h.goto (tgt := 36) dX11_is_32 (by decide)) ?_
        exact hJ36 _ _
      · exact hJ35 _
    · exact hJ35 _
  · exact hJ35 _
def l_X11_which_2 (t : Nat) (o1_ : Nat) (n1_ : Nat) (k1 : Int32) (M2 : Mem) : Option ((Int32 × Mem) ⊕ (Int32 × Mem)) :=
  if (Int32.ofNat n1_) ≤ k1 then (some (.inr ((-1 : Int32), M2))) else (gdi k1 n1_ (bd (f_X11_is t (o1_ + k1.toNatClampNeg) M2) (fun u4 M5 => if u4 = 0 then (nm (k1 + (1 : Int32)) (fun y6 => some (.inl (y6, M5)))) else (some (.inr (k1, M5))))))
def f_X11_which (t : Nat) (r1_ : Nat) (o1_ : Nat) (n1_ : Nat) (M : Mem) : Option (Int32 × Mem) :=
  lop2 FU (l_X11_which_2 t o1_ n1_) (0 : Int32) M
set_option maxRecDepth 20000 in
theorem c_X11_which {G : Ctx} (hW : WFG G) {t : Nat} {r1_ : Nat} {o1_ : Nat} {n1_ : Nat} {M M' : Mem} {r : Int32} (h0 : hs G t (0, 11)) (h1 : hs G r1_ (o1_ + 4, n1_) ∧ o1_ + n1_ ≤ 32) (hf : f_X11_which t r1_ o1_ n1_ M = some (r, M')) : Ct G yX11_which cX11_which 3 (some .int) 13 423 [.ref t, .ref r1_] M (some (.int r)) M' := by
  refine ct_i hW (by decide +kernel) (Nat.le_of_ble_eq_true rfl) (fun w h hr => ?_)
  have h : Rb G cX11_which RX11 3 13 423 w := h
  refine (?_ : E (fun q => q = (r, M')) (f_X11_which t r1_ o1_ n1_ M) (w M 0 [(0, .ref t), (1, .ref r1_)] [])) _ hf rfl
  unfold f_X11_which
  refine E.m (h.iconst (v := (0 : Int32)) dX11_which_0 (by decide)) ?_
  refine E.m (h.istore_n dX11_which_1 (by decide) rfl) ?_
  refine E.m (h.sub [1, 2, 0] rfl) ?_
  refine E.loop2 (fun k1 M2 => w M2 2 [(0, .ref t), (1, .ref r1_), (2, .int k1)] []) (fun k1 M2 => ?_) _ _ _
  unfold l_X11_which_2
  refine E.m (h.iload_n 2 dX11_which_2 rfl) ?_
  refine E.m (h.aload_n 1 dX11_which_3 rfl) ?_
  refine E.m (h.alenS (v := Int32.ofNat n1_) (h1).1 rfl dX11_which_4) ?_
  refine E.br (fun k1 k2 => h.icmp_ge (tgt := 26) dX11_which_5 (by decide) k1 k2) ?_ ?_
  · refine E.m (h.iconst (v := (-1 : Int32)) dX11_which_26 (by decide)) ?_
    exact E.some (ret_i hr rfl dX11_which_27)
  · refine E.m (h.aload_n 0 dX11_which_8 rfl) ?_
    refine E.m (h.aload_n 1 dX11_which_9 rfl) ?_
    refine E.m (h.iload_n 2 dX11_which_10 rfl) ?_
    refine E.gih (fun hi k => h.aaldS (h1).1 hi dX11_which_11 k) (fun hi3 => ?_)
    refine E.bnd (fun u4 M5 => w M5 15 [(0, .ref t), (1, .ref r1_), (2, .int k1)] [.int u4]) (fun u4 M5 hf k => h.callV (As := [.ref (gaK G (o1_ + k1.toNatClampNeg))]) (rest := []) (c_X11_is hW h0 (str_lt hi3 (h1).2) hf) lm_X11_is lv_m_X11_is ll_RX11_182 h0 lc_11 rfl rfl (Nat.le_of_ble_eq_true rfl) (by decide) dX11_which_12 rfl k) (fun u4 M5 => ?_)
    refine E.br (fun k1 k2 => h.if_eq (tgt := 20) dX11_which_15 (by decide) k1 k2) ?_ ?_
    · refine E.m (h.iinc (v := (1 : Int32)) 2 dX11_which_20 rfl (by decide) (by decide) rfl) ?_
      refine E.nmL (fun y6 => ?_)
      refine E.m (h.goto (tgt := 2) dX11_which_23 (by decide)) ?_
      refine E.m (h.sub [1, 2, 0] rfl) ?_
      exact E.some (fun q => q)
    · refine E.m (h.iload_n 2 dX11_which_18 rfl) ?_
      exact E.some (ret_i hr rfl dX11_which_19)
def f_X11_isMarked (t : Nat) (x1_ : Int32) (M : Mem) : Option (Int32 × Mem) :=
  jn1 (fun z1 => gdp (z1 = 0 ∨ z1 = 1) (some (z1, M))) (fun J33 => jn0 (fun _ => J33 (0 : Int32)) (fun J32 => if (M.1 t 19) = 0 then (if (M.1 t 15) = (3 : Int32) then (gdi (M.1 t 17) 700 (if (M.1 (t + 9) (M.1 t 17).toNatClampNeg) = x1_ then (J33 (1 : Int32)) else (J32 ()))) else (J32 ())) else (J32 ())))
set_option maxRecDepth 20000 in
theorem c_X11_isMarked {G : Ctx} (hW : WFG G) {t : Nat} {x1_ : Int32} {M M' : Mem} {r : Int32} (h0 : hs G t (0, 11)) (hf : f_X11_isMarked t x1_ M = some (r, M')) : Ct G yX11_isMarked cX11_isMarked 2 (some .boolean) 0 0 [.ref t, .int x1_] M (some (.int r)) M' := by
  refine ct_i hW (by decide +kernel) (Nat.le_of_ble_eq_true rfl) (fun w h hr => ?_)
  have h : Rb G cX11_isMarked RX11 2 0 0 w := h
  refine (?_ : E (fun q => q = (r, M')) (f_X11_isMarked t x1_ M) (w M 0 [(0, .ref t), (1, .int x1_)] [])) _ hf rfl
  unfold f_X11_isMarked
  refine E.m (h.aload_n 0 dX11_isMarked_0 rfl) ?_
  refine E.m (h.get h0 lf_RX11_168 dX11_isMarked_1 fv_11_19) ?_
  refine E.join1 (fun z1 => w M 33 [(0, .ref t), (1, .int x1_)] [.int z1]) (fun z1 => ?_) (fun J33 hJ33 => ?_)
  · refine E.gd (fun hc k => k hc) (fun hc => E.imp fun hc => ?_)
    exact E.some (ret_i hr (bl_n hc).1 dX11_isMarked_33)
  refine E.join0 (fun _ => w M 32 [(0, .ref t), (1, .int x1_)] []) (fun _ => ?_) (fun J32 hJ32 => ?_)
  · refine E.m (h.iconst (v := (0 : Int32)) dX11_isMarked_32 (by decide)) ?_
    exact hJ33 _
  refine E.br (fun k1 k2 => h.if_ne (tgt := 32) dX11_isMarked_4 (by decide) k2 k1) ?_ ?_
  · refine E.m (h.aload_n 0 dX11_isMarked_7 rfl) ?_
    refine E.m (h.get h0 lf_RX11_148 dX11_isMarked_8 fv_11_15) ?_
    refine E.m (h.iconst (v := (3 : Int32)) dX11_isMarked_11 (by decide)) ?_
    refine E.br (fun k1 k2 => h.icmp_ne (tgt := 32) dX11_isMarked_12 (by decide) k2 k1) ?_ ?_
    · refine E.m (h.aload_n 0 dX11_isMarked_15 rfl) ?_
      refine E.m (h.get h0 lf_RX11_62 dX11_isMarked_16 fv_11_11) ?_
      refine E.m (h.aload_n 0 dX11_isMarked_19 rfl) ?_
      refine E.m (h.get h0 lf_RX11_145 dX11_isMarked_20 fv_11_17) ?_
      refine E.gi (fun hi k => h.iald (hW.clo 48 h0 rfl) hi dX11_isMarked_23 k) ?_
      refine E.m (h.iload_n 1 dX11_isMarked_24 rfl) ?_
      refine E.br (fun k1 k2 => h.icmp_ne (tgt := 32) dX11_isMarked_25 (by decide) k2 k1) ?_ ?_
      · refine E.m (h.iconst (v := (1 : Int32)) dX11_isMarked_28 (by decide)) ?_
        refine E.m (h.goto (tgt := 33) dX11_isMarked_29 (by decide)) ?_
        exact hJ33 _
      · exact hJ32 ()
    · exact hJ32 ()
  · exact hJ32 ()
def f_X11_mark (t : Nat) (x1_ : Int32) (M : Mem) : Option (Unit × Mem) :=
  jn1 (fun M1 => jn1 (fun M2 => some ((), M2)) (fun J31 => if (M1.1 t 19) = 0 then (bd (f_X11_stepOn t M1) (fun _ M4 => J31 M4)) else (J31 M1))) (fun J20 => if (M.1 t 19) = 0 then (bd (f_X11_isMarked t x1_ M) (fun u5 M6 => if u5 = 0 then (bd (f_X11_wrong t (1 : Int32) M6) (fun _ M8 => J20 M8)) else (J20 M6))) else (J20 M))
set_option maxRecDepth 20000 in
theorem c_X11_mark {G : Ctx} (hW : WFG G) {t : Nat} {x1_ : Int32} {M M' : Mem} (h0 : hs G t (0, 11)) (hf : f_X11_mark t x1_ M = some ((), M')) : Ct G yX11_mark cX11_mark 2 none 2 42 [.ref t, .int x1_] M none M' := by
  refine ct_v hW (by decide +kernel) (Nat.le_of_ble_eq_true rfl) (fun w h hr => ?_)
  have h : Rb G cX11_mark RX11 2 2 42 w := h
  refine (?_ : E (fun q => q = ((), M')) (f_X11_mark t x1_ M) (w M 0 [(0, .ref t), (1, .int x1_)] [])) _ hf rfl
  unfold f_X11_mark
  refine E.m (h.aload_n 0 dX11_mark_0 rfl) ?_
  refine E.m (h.get h0 lf_RX11_168 dX11_mark_1 fv_11_19) ?_
  refine E.join1 (fun M1 => w M1 20 [(0, .ref t), (1, .int x1_)] []) (fun M1 => ?_) (fun J20 hJ20 => ?_)
  · refine E.m (h.aload_n 0 dX11_mark_20 rfl) ?_
    refine E.m (h.get h0 lf_RX11_168 dX11_mark_21 fv_11_19) ?_
    refine E.join1 (fun M2 => w M2 31 [(0, .ref t), (1, .int x1_)] []) (fun M2 => ?_) (fun J31 hJ31 => ?_)
    · exact E.some (ret_v hr dX11_mark_31)
    refine E.br (fun k1 k2 => h.if_ne (tgt := 31) dX11_mark_24 (by decide) k2 k1) ?_ ?_
    · refine E.m (h.aload_n 0 dX11_mark_27 rfl) ?_
      refine E.bnd (fun _ M4 => w M4 31 [(0, .ref t), (1, .int x1_)] []) (fun _ M4 hf k => h.callV (As := []) (rest := []) (c_X11_stepOn hW h0 hf) lm_X11_stepOn lv_m_X11_stepOn ll_RX11_193 h0 lc_11 rfl rfl (Nat.le_of_ble_eq_true rfl) (by decide) dX11_mark_28 rfl k) (fun _ M4 => ?_)
      exact hJ31 _
    · exact hJ31 _
  refine E.br (fun k1 k2 => h.if_ne (tgt := 20) dX11_mark_4 (by decide) k2 k1) ?_ ?_
  · refine E.m (h.aload_n 0 dX11_mark_7 rfl) ?_
    refine E.m (h.iload_n 1 dX11_mark_8 rfl) ?_
    refine E.bnd (fun u5 M6 => w M6 12 [(0, .ref t), (1, .int x1_)] [.int u5]) (fun u5 M6 hf k => h.callV (As := [.int x1_]) (rest := []) (c_X11_isMarked hW h0 hf) lm_X11_isMarked lv_m_X11_isMarked ll_RX11_186 h0 lc_11 rfl rfl (Nat.le_of_ble_eq_true rfl) (by decide) dX11_mark_9 rfl k) (fun u5 M6 => ?_)
    refine E.br (fun k1 k2 => h.if_ne (tgt := 20) dX11_mark_12 (by decide) k2 k1) ?_ ?_
    · refine E.m (h.aload_n 0 dX11_mark_15 rfl) ?_
      refine E.m (h.iconst (v := (1 : Int32)) dX11_mark_16 (by decide)) ?_
      refine E.bnd (fun _ M8 => w M8 20 [(0, .ref t), (1, .int x1_)] []) (fun _ M8 hf k => h.callV (As := [.int (1 : Int32)]) (rest := []) (c_X11_wrong hW h0 hf) lm_X11_wrong lv_m_X11_wrong ll_RX11_189 h0 lc_11 rfl rfl (Nat.le_of_ble_eq_true rfl) (by decide) dX11_mark_17 rfl k) (fun _ M8 => ?_)
      exact hJ20 _
    · exact hJ20 _
  · exact hJ20 _
def f_X11_readNumber (t : Nat) (x1_ : Int32) (x2_ : Int32) (M : Mem) : Option (Int32 × Mem) :=
  if (M.1 t 19) = 0 then (jn1 (fun M1 => jn1 (fun z2 => jn1 (fun M3 => some (z2, M3)) (fun J86 => if (M1.1 t 19) = 0 then (bd (f_X11_stepOn t M1) (fun _ M5 => J86 M5)) else (J86 M1))) (fun J74 => if (M1.1 t 19) = 0 then (J74 (M1.1 t 16)) else (J74 (0 : Int32)))) (fun J59 => if (M.1 t 15) = (2 : Int32) then (jn0 (fun _ => bd (f_X11_wrong t (2 : Int32) M) (fun _ M7 => J59 M7)) (fun J54 => if (4 : Int32) < ((M.1 t 18) - (M.1 t 17)) then (J54 ()) else (if (M.1 t 16) < x1_ then (J54 ()) else (if (M.1 t 16) ≤ x2_ then (J59 M) else (J54 ()))))) else (bd (f_X11_wrong t (1 : Int32) M) (fun _ M9 => J59 M9)))) else (some ((0 : Int32), M))
set_option maxRecDepth 20000 in
theorem c_X11_readNumber {G : Ctx} (hW : WFG G) {t : Nat} {x1_ : Int32} {x2_ : Int32} {M M' : Mem} {r : Int32} (h0 : hs G t (0, 11)) (hf : f_X11_readNumber t x1_ x2_ M = some (r, M')) : Ct G yX11_readNumber cX11_readNumber 4 (some .int) 2 42 [.ref t, .int x1_, .int x2_] M (some (.int r)) M' := by
  refine ct_i hW (by decide +kernel) (Nat.le_of_ble_eq_true rfl) (fun w h hr => ?_)
  have h : Rb G cX11_readNumber RX11 4 2 42 w := h
  refine (?_ : E (fun q => q = (r, M')) (f_X11_readNumber t x1_ x2_ M) (w M 0 [(0, .ref t), (1, .int x1_), (2, .int x2_)] [])) _ hf rfl
  unfold f_X11_readNumber
  refine E.m (h.aload_n 0 dX11_readNumber_0 rfl) ?_
  refine E.m (h.get h0 lf_RX11_168 dX11_readNumber_1 fv_11_19) ?_
  refine E.br (fun k1 k2 => h.if_eq (tgt := 9) dX11_readNumber_4 (by decide) k1 k2) ?_ ?_
  · refine E.m (h.aload_n 0 dX11_readNumber_9 rfl) ?_
    refine E.m (h.get h0 lf_RX11_148 dX11_readNumber_10 fv_11_15) ?_
    refine E.m (h.iconst (v := (2 : Int32)) dX11_readNumber_13 (by decide)) ?_
    refine E.join1 (fun M1 => w M1 59 [(0, .ref t), (1, .int x1_), (2, .int x2_)] []) (fun M1 => ?_) (fun J59 hJ59 => ?_)
    · refine E.m (h.aload_n 0 dX11_readNumber_59 rfl) ?_
      refine E.m (h.get h0 lf_RX11_168 dX11_readNumber_60 fv_11_19) ?_
      refine E.join1 (fun z2 => w M1 74 [(0, .ref t), (1, .int x1_), (2, .int x2_)] [.int z2]) (fun z2 => ?_) (fun J74 hJ74 => ?_)
      · refine E.m (h.istore_n dX11_readNumber_74 (by decide) rfl) ?_
        refine E.m (h.aload_n 1 dX11_readNumber_75 rfl) ?_
        refine E.m (h.get h0 lf_RX11_168 dX11_readNumber_76 fv_11_19) ?_
        refine E.join1 (fun M3 => w M3 86 [(0, .ref t), (1, .int x1_), (2, .int x2_), (3, .int z2)] []) (fun M3 => ?_) (fun J86 hJ86 => ?_)
        · refine E.m (h.iload_n 3 dX11_readNumber_86 rfl) ?_
          exact E.some (ret_i hr rfl dX11_readNumber_87)
        refine E.br (fun k1 k2 => h.if_ne (tgt := 86) dX11_readNumber_79 (by decide) k2 k1) ?_ ?_
        · refine E.m (h.aload_n 1 dX11_readNumber_82 rfl) ?_
          refine E.bnd (fun _ M5 => w M5 86 [(3, .int z2), (0, .ref t), (1, .int x1_), (2, .int x2_)] []) (fun _ M5 hf k => h.callV (As := []) (rest := []) (c_X11_stepOn hW h0 hf) lm_X11_stepOn lv_m_X11_stepOn ll_RX11_193 h0 lc_11 rfl rfl (Nat.le_of_ble_eq_true rfl) (by decide) dX11_readNumber_83 rfl k) (fun _ M5 => ?_)
          refine E.m (h.sub [1, 2, 3, 0] rfl) ?_
          exact hJ86 _
        · refine E.m (h.sub [1, 2, 3, 0] rfl) ?_
          exact hJ86 _
      refine E.br (fun k1 k2 => h.if_ne (tgt := 73) dX11_readNumber_63 (by decide) k2 k1) ?_ ?_
      · refine E.m (h.aload_n 0 dX11_readNumber_66 rfl) ?_
        refine E.m (h.get h0 lf_RX11_158 dX11_readNumber_67 fv_11_16) ?_
        refine E.m (h.goto (tgt := 74) dX11_readNumber_70 (by decide)) ?_
        exact hJ74 _
      · refine E.m (h.iconst (v := (0 : Int32)) dX11_readNumber_73 (by decide)) ?_
        exact hJ74 _
    refine E.br (fun k1 k2 => h.icmp_eq (tgt := 25) dX11_readNumber_14 (by decide) k1 k2) ?_ ?_
    · refine E.m (h.aload_n 0 dX11_readNumber_25 rfl) ?_
      refine E.m (h.get h0 lf_RX11_165 dX11_readNumber_26 fv_11_18) ?_
      refine E.m (h.aload_n 0 dX11_readNumber_29 rfl) ?_
      refine E.m (h.get h0 lf_RX11_145 dX11_readNumber_30 fv_11_17) ?_
      refine E.m (h.isub dX11_readNumber_33) ?_
      refine E.m (h.iconst (v := (4 : Int32)) dX11_readNumber_34 (by decide)) ?_
      refine E.join0 (fun _ => w M 54 [(0, .ref t), (1, .int x1_), (2, .int x2_)] []) (fun _ => ?_) (fun J54 hJ54 => ?_)
      · refine E.m (h.aload_n 0 dX11_readNumber_54 rfl) ?_
        refine E.m (h.iconst (v := (2 : Int32)) dX11_readNumber_55 (by decide)) ?_
        refine E.bnd (fun _ M7 => w M7 59 [(0, .ref t), (1, .int x1_), (2, .int x2_)] []) (fun _ M7 hf k => h.callV (As := [.int (2 : Int32)]) (rest := []) (c_X11_wrong hW h0 hf) lm_X11_wrong lv_m_X11_wrong ll_RX11_189 h0 lc_11 rfl rfl (Nat.le_of_ble_eq_true rfl) (by decide) dX11_readNumber_56 rfl k) (fun _ M7 => ?_)
        exact hJ59 _
      refine E.br (fun k1 k2 => h.icmp_gt (tgt := 54) dX11_readNumber_35 (by decide) k1 k2) ?_ ?_
      · exact hJ54 ()
      · refine E.m (h.aload_n 0 dX11_readNumber_38 rfl) ?_
        refine E.m (h.get h0 lf_RX11_158 dX11_readNumber_39 fv_11_16) ?_
        refine E.m (h.iload_n 1 dX11_readNumber_42 rfl) ?_
        refine E.br (fun k1 k2 => h.icmp_lt (tgt := 54) dX11_readNumber_43 (by decide) k1 k2) ?_ ?_
        · exact hJ54 ()
        · refine E.m (h.aload_n 0 dX11_readNumber_46 rfl) ?_
          refine E.m (h.get h0 lf_RX11_158 dX11_readNumber_47 fv_11_16) ?_
          refine E.m (h.iload_n 2 dX11_readNumber_50 rfl) ?_
          refine E.br (fun k1 k2 => h.icmp_le (tgt := 59) dX11_readNumber_51 (by decide) k1 k2) ?_ ?_
          · exact hJ59 _
          · exact hJ54 ()
    · refine E.m (h.aload_n 0 dX11_readNumber_17 rfl) ?_
      refine E.m (h.iconst (v := (1 : Int32)) dX11_readNumber_18 (by decide)) ?_
      refine E.bnd (fun _ M9 => w M9 22 [(0, .ref t), (1, .int x1_), (2, .int x2_)] []) (fun _ M9 hf k => h.callV (As := [.int (1 : Int32)]) (rest := []) (c_X11_wrong hW h0 hf) lm_X11_wrong lv_m_X11_wrong ll_RX11_189 h0 lc_11 rfl rfl (Nat.le_of_ble_eq_true rfl) (by decide) dX11_readNumber_19 rfl k) (fun _ M9 => ?_)
      refine E.m (h.goto (tgt := 59) dX11_readNumber_22 (by decide)) ?_
      exact hJ59 _
  · refine E.m (h.iconst (v := (0 : Int32)) dX11_readNumber_7 (by decide)) ?_
    exact E.some (ret_i hr rfl dX11_readNumber_8)
def f_X11_lay (t : Nat) (x1_ : Int32) (M : Mem) : Option (Unit × Mem) :=
  if (M.1 t 19) = 0 then (jn1 (fun z1 => nm ((10 : Int32) + z1) (fun y2 => jn1 (fun M3 => gdi y2 20 (gdi y2 20 (nm (wi M3 (t + 3) y2.toNatClampNeg ((M3.1 (t + 3) y2.toNatClampNeg) + (1 : Int32))) (fun M4 => some ((), M4))))) (fun J68 => if (M.1 t 10) = 0 then (gdi y2 20 (gdi ((700 : Int32) + (M.1 (t + 3) y2.toNatClampNeg)) 1400 (nm (wi M (t + 5) ((700 : Int32) + (M.1 (t + 3) y2.toNatClampNeg)).toNatClampNeg x1_) (fun M5 => J68 M5)))) else (gdi y2 20 (gdi ((700 : Int32) + (M.1 (t + 3) y2.toNatClampNeg)) 1400 (nm (wi M (t + 6) ((700 : Int32) + (M.1 (t + 3) y2.toNatClampNeg)).toNatClampNeg x1_) (fun M6 => J68 M6))))))) (fun J24 => if (M.1 t 10) = 0 then (J24 (8 : Int32)) else (J24 (9 : Int32)))) else (some ((), M))
set_option maxRecDepth 20000 in
theorem c_X11_lay {G : Ctx} (hW : WFG G) {t : Nat} {x1_ : Int32} {M M' : Mem} (h0 : hs G t (0, 11)) (hf : f_X11_lay t x1_ M = some ((), M')) : Ct G yX11_lay cX11_lay 3 none 0 0 [.ref t, .int x1_] M none M' := by
  refine ct_v hW (by decide +kernel) (Nat.le_of_ble_eq_true rfl) (fun w h hr => ?_)
  have h : Rb G cX11_lay RX11 3 0 0 w := h
  refine (?_ : E (fun q => q = ((), M')) (f_X11_lay t x1_ M) (w M 0 [(0, .ref t), (1, .int x1_)] [])) _ hf rfl
  unfold f_X11_lay
  refine E.m (h.aload_n 0 dX11_lay_0 rfl) ?_
  refine E.m (h.get h0 lf_RX11_168 dX11_lay_1 fv_11_19) ?_
  refine E.br (fun k1 k2 => h.if_eq (tgt := 8) dX11_lay_4 (by decide) k1 k2) ?_ ?_
  · refine E.m (h.bipush (v := (10 : Int32)) dX11_lay_8 (by decide)) ?_
    refine E.m (h.aload_n 0 dX11_lay_10 rfl) ?_
    refine E.m (h.get h0 lf_RX11_196 dX11_lay_11 fv_11_10) ?_
    refine E.join1 (fun z1 => w M 24 [(0, .ref t), (1, .int x1_)] [.int z1, .int (10 : Int32)]) (fun z1 => ?_) (fun J24 hJ24 => ?_)
    · refine E.m (h.iadd dX11_lay_24) ?_
      refine E.m (h.istore_n dX11_lay_25 (by decide) rfl) ?_
      refine E.nmL (fun y2 => ?_)
      refine E.m (h.aload_n 1 dX11_lay_26 rfl) ?_
      refine E.m (h.get h0 lf_RX11_196 dX11_lay_27 fv_11_10) ?_
      refine E.join1 (fun M3 => w M3 68 [(0, .ref t), (1, .int x1_), (2, .int y2)] []) (fun M3 => ?_) (fun J68 hJ68 => ?_)
      · refine E.m (h.aload_n 0 dX11_lay_68 rfl) ?_
        refine E.m (h.get h0 lf_RX11_44 dX11_lay_69 fv_11_3) ?_
        refine E.m (h.iload_n 2 dX11_lay_72 rfl) ?_
        refine E.m (h.dup2 dX11_lay_73 rfl rfl) ?_
        refine E.gi (fun hi k => h.iald (hW.clo 42 h0 rfl) hi dX11_lay_74 k) ?_
        refine E.m (h.iconst (v := (1 : Int32)) dX11_lay_75 (by decide)) ?_
        refine E.m (h.iadd dX11_lay_76) ?_
        refine E.gi (fun hi k => h.iast (hW.clo 42 h0 rfl) hi dX11_lay_77 k) ?_
        refine E.nmM (fun M4 => ?_)
        exact E.some (ret_v hr dX11_lay_78)
      refine E.br (fun k1 k2 => h.if_eq (tgt := 52) dX11_lay_30 (by decide) k1 k2) ?_ ?_
      · refine E.m (h.aload_n 1 dX11_lay_52 rfl) ?_
        refine E.m (h.get h0 lf_RX11_50 dX11_lay_53 fv_11_5) ?_
        refine E.m (h.sipush (v := (700 : Int32)) dX11_lay_56 (by decide)) ?_
        refine E.m (h.aload_n 1 dX11_lay_59 rfl) ?_
        refine E.m (h.get h0 lf_RX11_44 dX11_lay_60 fv_11_3) ?_
        refine E.m (h.iload_n 0 dX11_lay_63 rfl) ?_
        refine E.gi (fun hi k => h.iald (hW.clo 42 h0 rfl) hi dX11_lay_64 k) ?_
        refine E.m (h.iadd dX11_lay_65) ?_
        refine E.m (h.iload_n 2 dX11_lay_66 rfl) ?_
        refine E.gi (fun hi k => h.iast (hW.clo 44 h0 rfl) hi dX11_lay_67 k) ?_
        refine E.nmM (fun M5 => ?_)
        refine E.m (h.sub [1, 2, 0] rfl) ?_
        exact hJ68 _
      · refine E.m (h.aload_n 1 dX11_lay_33 rfl) ?_
        refine E.m (h.get h0 lf_RX11_53 dX11_lay_34 fv_11_6) ?_
        refine E.m (h.sipush (v := (700 : Int32)) dX11_lay_37 (by decide)) ?_
        refine E.m (h.aload_n 1 dX11_lay_40 rfl) ?_
        refine E.m (h.get h0 lf_RX11_44 dX11_lay_41 fv_11_3) ?_
        refine E.m (h.iload_n 0 dX11_lay_44 rfl) ?_
        refine E.gi (fun hi k => h.iald (hW.clo 42 h0 rfl) hi dX11_lay_45 k) ?_
        refine E.m (h.iadd dX11_lay_46) ?_
        refine E.m (h.iload_n 2 dX11_lay_47 rfl) ?_
        refine E.gi (fun hi k => h.iast (hW.clo 45 h0 rfl) hi dX11_lay_48 k) ?_
        refine E.nmM (fun M6 => ?_)
        refine E.m (h.goto (tgt := 68) dX11_lay_49 (by decide)) ?_
        refine E.m (h.sub [1, 2, 0] rfl) ?_
        exact hJ68 _
    refine E.br (fun k1 k2 => h.if_eq (tgt := 22) dX11_lay_14 (by decide) k1 k2) ?_ ?_
    · refine E.m (h.bipush (v := (8 : Int32)) dX11_lay_22 (by decide)) ?_
      exact hJ24 _
    · refine E.m (h.bipush (v := (9 : Int32)) dX11_lay_17 (by decide)) ?_
      refine E.m (h.goto (tgt := 24) dX11_lay_19 (by decide)) ?_
      exact hJ24 _
  · exact E.some (ret_v hr dX11_lay_7)
def l_X11_readExpression_67 (t : Nat) (x1_ : Int32) (cb_X11_readAnd : Nat → Int32 → Mem → Option (Unit × Mem)) (M6 : Mem) : Option ((Mem) ⊕ (Unit × Mem)) :=
  bd (f_X11_is t 13 M6) (fun u7 M8 => if u7 = 0 then (some (.inr ((), M8))) else (bd (f_X11_stepOn t M8) (fun _ M10 => bd (cb_X11_readAnd t x1_ M10) (fun _ M12 => bd (f_X11_lay t (-27 : Int32) M12) (fun _ M14 => some (.inl M14))))))
def l_X11_readAnd_5 (t : Nat) (x1_ : Int32) (cb_X11_readNot : Nat → Int32 → Mem → Option (Unit × Mem)) (M3 : Mem) : Option ((Mem) ⊕ (Unit × Mem)) :=
  bd (f_X11_is t 14 M3) (fun u4 M5 => if u4 = 0 then (some (.inr ((), M5))) else (bd (f_X11_stepOn t M5) (fun _ M7 => bd (cb_X11_readNot t x1_ M7) (fun _ M9 => bd (f_X11_lay t (-26 : Int32) M9) (fun _ M11 => some (.inl M11))))))
def l_X11_readNot_95 (t : Nat) (k1 : Int32) (k10 : Int32) (M11 : Mem) : Option ((Int32 × Mem) ⊕ ((Int32 × Mem) ⊕ (Unit × Mem))) :=
  if k1 ≤ k10 then (some (.inr (.inr ((), M11)))) else (bd (f_X11_lay t (-28 : Int32) M11) (fun _ M13 => nm (k10 + (1 : Int32)) (fun y14 => some (.inl (y14, M13)))))
def l_X11_readNot_2 (t : Nat) (x1_ : Int32) (cb_X11_readSum : Nat → Int32 → Mem → Option (Unit × Mem)) (k1 : Int32) (M2 : Mem) : Option ((Int32 × Mem) ⊕ (Unit × Mem)) :=
  bd (f_X11_is t 15 M2) (fun u3 M4 => if u3 = 0 then (bd (cb_X11_readSum t x1_ M4) (fun _ M6 => bd (f_X11_isMarked t (60 : Int32) M6) (fun u7 M8 => jn1 (fun M9 => lop2 FU (l_X11_readNot_95 t k1) (0 : Int32) M9) (fun J93 => jn1 (fun M15 => bd (f_X11_isMarked t (60 : Int32) M15) (fun u16 M17 => jn1 (fun z18 => bd (f_X11_stepOn t M17) (fun _ M20 => bd (cb_X11_readSum t x1_ M20) (fun _ M22 => bd (f_X11_lay t z18 M22) (fun _ M24 => J93 M24)))) (fun J78 => if u16 = 0 then (J78 (-25 : Int32)) else (J78 (-24 : Int32))))) (fun J62 => if u7 = 0 then (bd (f_X11_isMarked t (61 : Int32) M8) (fun u25 M26 => if u25 = 0 then (J93 M26) else (J62 M26))) else (J62 M8)))))) else (jn1 (fun M27 => nm (k1 + (1 : Int32)) (fun y28 => if (M27.1 t 19) = 0 then (bd (f_X11_stepOn t M27) (fun _ M30 => some (.inl (y28, M30)))) else (some (.inl (y28, M27))))) (fun J22 => if k1 = (6 : Int32) then (bd (f_X11_wrong t (2 : Int32) M4) (fun _ M32 => J22 M32)) else (J22 M4))))
def l_X11_readSum_5 (t : Nat) (x1_ : Int32) (cb_X11_readProduct : Nat → Int32 → Mem → Option (Unit × Mem)) (M3 : Mem) : Option ((Mem) ⊕ (Unit × Mem)) :=
  bd (f_X11_isMarked t (43 : Int32) M3) (fun u4 M5 => jn1 (fun M6 => bd (f_X11_isMarked t (43 : Int32) M6) (fun u7 M8 => jn1 (fun z9 => bd (f_X11_stepOn t M8) (fun _ M11 => bd (cb_X11_readProduct t x1_ M11) (fun _ M13 => bd (f_X11_lay t z9 M13) (fun _ M15 => some (.inl M15))))) (fun J39 => if u7 = 0 then (J39 (-21 : Int32)) else (J39 (-20 : Int32))))) (fun J23 => if u4 = 0 then (bd (f_X11_isMarked t (45 : Int32) M5) (fun u16 M17 => if u16 = 0 then (some (.inr ((), M17))) else (J23 M17))) else (J23 M5)))
def l_X11_readProduct_5 (t : Nat) (x1_ : Int32) (cb_X11_readPart : Nat → Int32 → Mem → Option (Unit × Mem)) (M3 : Mem) : Option ((Mem) ⊕ (Unit × Mem)) :=
  bd (f_X11_isMarked t (42 : Int32) M3) (fun u4 M5 => jn1 (fun M6 => bd (f_X11_isMarked t (42 : Int32) M6) (fun u7 M8 => jn1 (fun z9 => bd (f_X11_stepOn t M8) (fun _ M11 => bd (cb_X11_readPart t x1_ M11) (fun _ M13 => bd (f_X11_lay t z9 M13) (fun _ M15 => some (.inl M15))))) (fun J39 => if u7 = 0 then (J39 (-23 : Int32)) else (J39 (-22 : Int32))))) (fun J23 => if u4 = 0 then (bd (f_X11_isMarked t (47 : Int32) M5) (fun u16 M17 => if u16 = 0 then (some (.inr ((), M17))) else (J23 M17))) else (J23 M5)))
def b_X11_readExpression (cb_X11_readExpression : Nat → Int32 → Mem → Option (Unit × Mem)) (cb_X11_readAnd : Nat → Int32 → Mem → Option (Unit × Mem)) (cb_X11_readNot : Nat → Int32 → Mem → Option (Unit × Mem)) (cb_X11_readSum : Nat → Int32 → Mem → Option (Unit × Mem)) (cb_X11_readProduct : Nat → Int32 → Mem → Option (Unit × Mem)) (cb_X11_readPart : Nat → Int32 → Mem → Option (Unit × Mem)) (t : Nat) (x1_ : Int32) (M : Mem) : Option (Unit × Mem) :=
  if (M.1 t 19) = 0 then (jn2 (fun z1 M2 => jn1 (fun M3 => bd (cb_X11_readAnd t x1_ M3) (fun _ M5 => lop1 FU (l_X11_readExpression_67 t x1_ cb_X11_readAnd) M5)) (fun J62 => if z1 = 0 then (bd (f_X11_wrong t (1 : Int32) M2) (fun _ M18 => J62 M18)) else (if x1_ = (6 : Int32) then (bd (f_X11_wrong t (2 : Int32) M2) (fun _ M16 => J62 M16)) else (J62 M2)))) (fun J38 => jn1 (fun M19 => J38 (1 : Int32) M19) (fun J33 => if (M.1 t 15) = (2 : Int32) then (J33 M) else (if (M.1 t 15) = (1 : Int32) then (J33 M) else (bd (f_X11_isMarked t (40 : Int32) M) (fun u20 M21 => if u20 = 0 then (J38 (0 : Int32) M21) else (J33 M21))))))) else (some ((), M))
def b_X11_readAnd (cb_X11_readExpression : Nat → Int32 → Mem → Option (Unit × Mem)) (cb_X11_readAnd : Nat → Int32 → Mem → Option (Unit × Mem)) (cb_X11_readNot : Nat → Int32 → Mem → Option (Unit × Mem)) (cb_X11_readSum : Nat → Int32 → Mem → Option (Unit × Mem)) (cb_X11_readProduct : Nat → Int32 → Mem → Option (Unit × Mem)) (cb_X11_readPart : Nat → Int32 → Mem → Option (Unit × Mem)) (t : Nat) (x1_ : Int32) (M : Mem) : Option (Unit × Mem) :=
  bd (cb_X11_readNot t x1_ M) (fun _ M2 => lop1 FU (l_X11_readAnd_5 t x1_ cb_X11_readNot) M2)
def b_X11_readNot (cb_X11_readExpression : Nat → Int32 → Mem → Option (Unit × Mem)) (cb_X11_readAnd : Nat → Int32 → Mem → Option (Unit × Mem)) (cb_X11_readNot : Nat → Int32 → Mem → Option (Unit × Mem)) (cb_X11_readSum : Nat → Int32 → Mem → Option (Unit × Mem)) (cb_X11_readProduct : Nat → Int32 → Mem → Option (Unit × Mem)) (cb_X11_readPart : Nat → Int32 → Mem → Option (Unit × Mem)) (t : Nat) (x1_ : Int32) (M : Mem) : Option (Unit × Mem) :=
  lop2 FU (l_X11_readNot_2 t x1_ cb_X11_readSum) (0 : Int32) M
def b_X11_readSum (cb_X11_readExpression : Nat → Int32 → Mem → Option (Unit × Mem)) (cb_X11_readAnd : Nat → Int32 → Mem → Option (Unit × Mem)) (cb_X11_readNot : Nat → Int32 → Mem → Option (Unit × Mem)) (cb_X11_readSum : Nat → Int32 → Mem → Option (Unit × Mem)) (cb_X11_readProduct : Nat → Int32 → Mem → Option (Unit × Mem)) (cb_X11_readPart : Nat → Int32 → Mem → Option (Unit × Mem)) (t : Nat) (x1_ : Int32) (M : Mem) : Option (Unit × Mem) :=
  bd (cb_X11_readProduct t x1_ M) (fun _ M2 => lop1 FU (l_X11_readSum_5 t x1_ cb_X11_readProduct) M2)
def b_X11_readProduct (cb_X11_readExpression : Nat → Int32 → Mem → Option (Unit × Mem)) (cb_X11_readAnd : Nat → Int32 → Mem → Option (Unit × Mem)) (cb_X11_readNot : Nat → Int32 → Mem → Option (Unit × Mem)) (cb_X11_readSum : Nat → Int32 → Mem → Option (Unit × Mem)) (cb_X11_readProduct : Nat → Int32 → Mem → Option (Unit × Mem)) (cb_X11_readPart : Nat → Int32 → Mem → Option (Unit × Mem)) (t : Nat) (x1_ : Int32) (M : Mem) : Option (Unit × Mem) :=
  bd (cb_X11_readPart t x1_ M) (fun _ M2 => lop1 FU (l_X11_readProduct_5 t x1_ cb_X11_readPart) M2)
def b_X11_readPart (cb_X11_readExpression : Nat → Int32 → Mem → Option (Unit × Mem)) (cb_X11_readAnd : Nat → Int32 → Mem → Option (Unit × Mem)) (cb_X11_readNot : Nat → Int32 → Mem → Option (Unit × Mem)) (cb_X11_readSum : Nat → Int32 → Mem → Option (Unit × Mem)) (cb_X11_readProduct : Nat → Int32 → Mem → Option (Unit × Mem)) (cb_X11_readPart : Nat → Int32 → Mem → Option (Unit × Mem)) (t : Nat) (x1_ : Int32) (M : Mem) : Option (Unit × Mem) :=
  if (M.1 t 19) = 0 then (if (M.1 t 15) = (2 : Int32) then (bd (f_X11_readNumber t (0 : Int32) (9999 : Int32) M) (fun u17 M18 => bd (f_X11_lay t u17 M18) (fun _ M20 => some ((), M20)))) else (if (M.1 t 15) = (1 : Int32) then (bd (f_X11_which t (t + 1) 0 4 M) (fun u7 M8 => jn1 (fun M9 => bd (f_X11_lay t ((-1 : Int32) - u7) M9) (fun _ M11 => jn1 (fun M12 => some ((), M12)) (fun J74 => if (M11.1 t 19) = 0 then (bd (f_X11_stepOn t M11) (fun _ M14 => J74 M14)) else (J74 M11)))) (fun J56 => if u7 = (-1 : Int32) then (bd (f_X11_wrong t (3 : Int32) M8) (fun _ M16 => J56 M16)) else (J56 M8)))) else (bd (f_X11_mark t (40 : Int32) M) (fun _ M2 => bd (cb_X11_readExpression t (x1_ + (1 : Int32)) M2) (fun _ M4 => bd (f_X11_mark t (41 : Int32) M4) (fun _ M6 => some ((), M6))))))) else (some ((), M))
set_option maxRecDepth 20000 in
theorem cb_X11_readExpression_ok {G : Ctx} (hW : WFG G) {d : Nat} {cb_X11_readExpression : Nat → Int32 → Mem → Option (Unit × Mem)} {cb_X11_readAnd : Nat → Int32 → Mem → Option (Unit × Mem)} {cb_X11_readNot : Nat → Int32 → Mem → Option (Unit × Mem)} {cb_X11_readSum : Nat → Int32 → Mem → Option (Unit × Mem)} {cb_X11_readProduct : Nat → Int32 → Mem → Option (Unit × Mem)} {cb_X11_readPart : Nat → Int32 → Mem → Option (Unit × Mem)} (ih_X11_readExpression : ∀ {t : Nat} {x1_ : Int32} {M M' : Mem}, WFG G → hs G t (0, 11) → cb_X11_readExpression t x1_ M = some ((), M') → Ct G yX11_readExpression cX11_readExpression 3 none (14 + d) (445 + 60 * d) [.ref t, .int x1_] M none M') (ih_X11_readAnd : ∀ {t : Nat} {x1_ : Int32} {M M' : Mem}, WFG G → hs G t (0, 11) → cb_X11_readAnd t x1_ M = some ((), M') → Ct G yX11_readAnd cX11_readAnd 2 none (14 + d) (445 + 60 * d) [.ref t, .int x1_] M none M') (ih_X11_readNot : ∀ {t : Nat} {x1_ : Int32} {M M' : Mem}, WFG G → hs G t (0, 11) → cb_X11_readNot t x1_ M = some ((), M') → Ct G yX11_readNot cX11_readNot 4 none (14 + d) (445 + 60 * d) [.ref t, .int x1_] M none M') (ih_X11_readSum : ∀ {t : Nat} {x1_ : Int32} {M M' : Mem}, WFG G → hs G t (0, 11) → cb_X11_readSum t x1_ M = some ((), M') → Ct G yX11_readSum cX11_readSum 3 none (14 + d) (445 + 60 * d) [.ref t, .int x1_] M none M') (ih_X11_readProduct : ∀ {t : Nat} {x1_ : Int32} {M M' : Mem}, WFG G → hs G t (0, 11) → cb_X11_readProduct t x1_ M = some ((), M') → Ct G yX11_readProduct cX11_readProduct 3 none (14 + d) (445 + 60 * d) [.ref t, .int x1_] M none M') (ih_X11_readPart : ∀ {t : Nat} {x1_ : Int32} {M M' : Mem}, WFG G → hs G t (0, 11) → cb_X11_readPart t x1_ M = some ((), M') → Ct G yX11_readPart cX11_readPart 3 none (14 + d) (445 + 60 * d) [.ref t, .int x1_] M none M') {t : Nat} {x1_ : Int32} {M M' : Mem} (h0 : hs G t (0, 11)) (hf : b_X11_readExpression cb_X11_readExpression cb_X11_readAnd cb_X11_readNot cb_X11_readSum cb_X11_readProduct cb_X11_readPart t x1_ M = some ((), M')) : Ct G yX11_readExpression cX11_readExpression 3 none (14 + (d + 1)) (445 + 60 * (d + 1)) [.ref t, .int x1_] M none M' := by
  refine ct_v hW (by decide +kernel) (Nat.le_of_ble_eq_true rfl) (fun w h hr => ?_)
  have h : Rb G cX11_readExpression RX11 3 (14 + (d + 1)) (445 + 60 * (d + 1)) w := h
  refine (?_ : E (fun q => q = ((), M')) (b_X11_readExpression cb_X11_readExpression cb_X11_readAnd cb_X11_readNot cb_X11_readSum cb_X11_readProduct cb_X11_readPart t x1_ M) (w M 0 [(0, .ref t), (1, .int x1_)] [])) _ hf rfl
  unfold b_X11_readExpression
  refine E.m (h.aload_n 0 dX11_readExpression_0 rfl) ?_
  refine E.m (h.get h0 lf_RX11_168 dX11_readExpression_1 fv_11_19) ?_
  refine E.br (fun k1 k2 => h.if_eq (tgt := 8) dX11_readExpression_4 (by decide) k1 k2) ?_ ?_
  · refine E.m (h.aload_n 0 dX11_readExpression_8 rfl) ?_
    refine E.m (h.get h0 lf_RX11_148 dX11_readExpression_9 fv_11_15) ?_
    refine E.m (h.iconst (v := (2 : Int32)) dX11_readExpression_12 (by decide)) ?_
    refine E.join2 (fun z1 M2 => w M2 38 [(0, .ref t), (1, .int x1_)] [.int z1]) (fun z1 M2 => ?_) (fun J38 hJ38 => ?_)
    · refine E.m (h.istore_n dX11_readExpression_38 (by decide) rfl) ?_
      refine E.m (h.iload_n 0 dX11_readExpression_39 rfl) ?_
      refine E.join1 (fun M3 => w M3 62 [(0, .ref t), (1, .int x1_), (2, .int z1)] []) (fun M3 => ?_) (fun J62 hJ62 => ?_)
      · refine E.m (h.aload_n 0 dX11_readExpression_62 rfl) ?_
        refine E.m (h.iload_n 1 dX11_readExpression_63 rfl) ?_
        refine E.bnd (fun _ M5 => w M5 67 [(0, .ref t), (1, .int x1_), (2, .int z1)] []) (fun _ M5 hf k => h.callV (As := [.int x1_]) (rest := []) (ih_X11_readAnd hW h0 hf) lm_X11_readAnd lv_m_X11_readAnd ll_RX11_232 h0 lc_11 rfl rfl (Nat.le_of_ble_eq_true rfl) ⟨by omega, by omega⟩ dX11_readExpression_64 rfl k) (fun _ M5 => ?_)
        refine E.loop1 (fun M6 => w M6 67 [(0, .ref t), (1, .int x1_), (2, .int z1)] []) (fun M6 => ?_) _ _
        unfold l_X11_readExpression_67
        refine E.m (h.aload_n 0 dX11_readExpression_67 rfl) ?_
        refine E.m (h.ldcS (i := 13) 47 rfl dX11_readExpression_68) ?_
        refine E.bnd (fun u7 M8 => w M8 73 [(0, .ref t), (1, .int x1_), (2, .int z1)] [.int u7]) (fun u7 M8 hf k => h.callV (As := [.ref (gaK G 13)]) (rest := []) (c_X11_is hW h0 (by decide) hf) lm_X11_is lv_m_X11_is ll_RX11_182 h0 lc_11 rfl rfl (Nat.le_of_ble_eq_true rfl) ⟨by omega, by omega⟩ dX11_readExpression_70 rfl k) (fun u7 M8 => ?_)
        refine E.br (fun k1 k2 => h.if_eq (tgt := 94) dX11_readExpression_73 (by decide) k1 k2) ?_ ?_
        · exact E.some (ret_v hr dX11_readExpression_94)
        · refine E.m (h.aload_n 0 dX11_readExpression_76 rfl) ?_
          refine E.bnd (fun _ M10 => w M10 80 [(0, .ref t), (1, .int x1_), (2, .int z1)] []) (fun _ M10 hf k => h.callV (As := []) (rest := []) (c_X11_stepOn hW h0 hf) lm_X11_stepOn lv_m_X11_stepOn ll_RX11_193 h0 lc_11 rfl rfl (Nat.le_of_ble_eq_true rfl) ⟨by omega, by omega⟩ dX11_readExpression_77 rfl k) (fun _ M10 => ?_)
          refine E.m (h.aload_n 0 dX11_readExpression_80 rfl) ?_
          refine E.m (h.iload_n 1 dX11_readExpression_81 rfl) ?_
          refine E.bnd (fun _ M12 => w M12 85 [(0, .ref t), (1, .int x1_), (2, .int z1)] []) (fun _ M12 hf k => h.callV (As := [.int x1_]) (rest := []) (ih_X11_readAnd hW h0 hf) lm_X11_readAnd lv_m_X11_readAnd ll_RX11_232 h0 lc_11 rfl rfl (Nat.le_of_ble_eq_true rfl) ⟨by omega, by omega⟩ dX11_readExpression_82 rfl k) (fun _ M12 => ?_)
          refine E.m (h.aload_n 0 dX11_readExpression_85 rfl) ?_
          refine E.m (h.bipush (v := (-27 : Int32)) dX11_readExpression_86 (by decide)) ?_
          refine E.bnd (fun _ M14 => w M14 91 [(0, .ref t), (1, .int x1_), (2, .int z1)] []) (fun _ M14 hf k => h.callV (As := [.int (-27 : Int32)]) (rest := []) (c_X11_lay hW h0 hf) lm_X11_lay lv_m_X11_lay ll_RX11_203 h0 lc_11 rfl rfl (Nat.le_of_ble_eq_true rfl) ⟨by omega, by omega⟩ dX11_readExpression_88 rfl k) (fun _ M14 => ?_)
          refine E.m (h.goto (tgt := 67) dX11_readExpression_91 (by decide)) ?_
          exact E.some (fun q => q)
      refine E.br (fun k1 k2 => h.if_ne (tgt := 51) dX11_readExpression_40 (by decide) k2 k1) ?_ ?_
      · refine E.m (h.aload_n 1 dX11_readExpression_43 rfl) ?_
        refine E.m (h.iconst (v := (1 : Int32)) dX11_readExpression_44 (by decide)) ?_
        refine E.bnd (fun _ M18 => w M18 48 [(2, .int z1), (0, .ref t), (1, .int x1_)] []) (fun _ M18 hf k => h.callV (As := [.int (1 : Int32)]) (rest := []) (c_X11_wrong hW h0 hf) lm_X11_wrong lv_m_X11_wrong ll_RX11_189 h0 lc_11 rfl rfl (Nat.le_of_ble_eq_true rfl) ⟨by omega, by omega⟩ dX11_readExpression_45 rfl k) (fun _ M18 => ?_)
        refine E.m (h.goto (tgt := 62) dX11_readExpression_48 (by decide)) ?_
        refine E.m (h.sub [1, 2, 0] rfl) ?_
        exact hJ62 _
      · refine E.m (h.iload_n 2 dX11_readExpression_51 rfl) ?_
        refine E.m (h.bipush (v := (6 : Int32)) dX11_readExpression_52 (by decide)) ?_
        refine E.br (fun k1 k2 => h.icmp_ne (tgt := 62) dX11_readExpression_54 (by decide) k2 k1) ?_ ?_
        · refine E.m (h.aload_n 1 dX11_readExpression_57 rfl) ?_
          refine E.m (h.iconst (v := (2 : Int32)) dX11_readExpression_58 (by decide)) ?_
          refine E.bnd (fun _ M16 => w M16 62 [(2, .int z1), (0, .ref t), (1, .int x1_)] []) (fun _ M16 hf k => h.callV (As := [.int (2 : Int32)]) (rest := []) (c_X11_wrong hW h0 hf) lm_X11_wrong lv_m_X11_wrong ll_RX11_189 h0 lc_11 rfl rfl (Nat.le_of_ble_eq_true rfl) ⟨by omega, by omega⟩ dX11_readExpression_59 rfl k) (fun _ M16 => ?_)
          refine E.m (h.sub [1, 2, 0] rfl) ?_
          exact hJ62 _
        · refine E.m (h.sub [1, 2, 0] rfl) ?_
          exact hJ62 _
    refine E.join1 (fun M19 => w M19 33 [(0, .ref t), (1, .int x1_)] []) (fun M19 => ?_) (fun J33 hJ33 => ?_)
    · refine E.m (h.iconst (v := (1 : Int32)) dX11_readExpression_33 (by decide)) ?_
      refine E.m (h.goto (tgt := 38) dX11_readExpression_34 (by decide)) ?_
      exact hJ38 _ _
    refine E.br (fun k1 k2 => h.icmp_eq (tgt := 33) dX11_readExpression_13 (by decide) k1 k2) ?_ ?_
    · exact hJ33 _
    · refine E.m (h.aload_n 0 dX11_readExpression_16 rfl) ?_
      refine E.m (h.get h0 lf_RX11_148 dX11_readExpression_17 fv_11_15) ?_
      refine E.m (h.iconst (v := (1 : Int32)) dX11_readExpression_20 (by decide)) ?_
      refine E.br (fun k1 k2 => h.icmp_eq (tgt := 33) dX11_readExpression_21 (by decide) k1 k2) ?_ ?_
      · exact hJ33 _
      · refine E.m (h.aload_n 0 dX11_readExpression_24 rfl) ?_
        refine E.m (h.bipush (v := (40 : Int32)) dX11_readExpression_25 (by decide)) ?_
        refine E.bnd (fun u20 M21 => w M21 30 [(0, .ref t), (1, .int x1_)] [.int u20]) (fun u20 M21 hf k => h.callV (As := [.int (40 : Int32)]) (rest := []) (c_X11_isMarked hW h0 hf) lm_X11_isMarked lv_m_X11_isMarked ll_RX11_186 h0 lc_11 rfl rfl (Nat.le_of_ble_eq_true rfl) ⟨by omega, by omega⟩ dX11_readExpression_27 rfl k) (fun u20 M21 => ?_)
        refine E.br (fun k1 k2 => h.if_eq (tgt := 37) dX11_readExpression_30 (by decide) k1 k2) ?_ ?_
        · refine E.m (h.iconst (v := (0 : Int32)) dX11_readExpression_37 (by decide)) ?_
          exact hJ38 _ _
        · exact hJ33 _
  · exact E.some (ret_v hr dX11_readExpression_7)
set_option maxRecDepth 20000 in
theorem cb_X11_readAnd_ok {G : Ctx} (hW : WFG G) {d : Nat} {cb_X11_readExpression : Nat → Int32 → Mem → Option (Unit × Mem)} {cb_X11_readAnd : Nat → Int32 → Mem → Option (Unit × Mem)} {cb_X11_readNot : Nat → Int32 → Mem → Option (Unit × Mem)} {cb_X11_readSum : Nat → Int32 → Mem → Option (Unit × Mem)} {cb_X11_readProduct : Nat → Int32 → Mem → Option (Unit × Mem)} {cb_X11_readPart : Nat → Int32 → Mem → Option (Unit × Mem)} (ih_X11_readExpression : ∀ {t : Nat} {x1_ : Int32} {M M' : Mem}, WFG G → hs G t (0, 11) → cb_X11_readExpression t x1_ M = some ((), M') → Ct G yX11_readExpression cX11_readExpression 3 none (14 + d) (445 + 60 * d) [.ref t, .int x1_] M none M') (ih_X11_readAnd : ∀ {t : Nat} {x1_ : Int32} {M M' : Mem}, WFG G → hs G t (0, 11) → cb_X11_readAnd t x1_ M = some ((), M') → Ct G yX11_readAnd cX11_readAnd 2 none (14 + d) (445 + 60 * d) [.ref t, .int x1_] M none M') (ih_X11_readNot : ∀ {t : Nat} {x1_ : Int32} {M M' : Mem}, WFG G → hs G t (0, 11) → cb_X11_readNot t x1_ M = some ((), M') → Ct G yX11_readNot cX11_readNot 4 none (14 + d) (445 + 60 * d) [.ref t, .int x1_] M none M') (ih_X11_readSum : ∀ {t : Nat} {x1_ : Int32} {M M' : Mem}, WFG G → hs G t (0, 11) → cb_X11_readSum t x1_ M = some ((), M') → Ct G yX11_readSum cX11_readSum 3 none (14 + d) (445 + 60 * d) [.ref t, .int x1_] M none M') (ih_X11_readProduct : ∀ {t : Nat} {x1_ : Int32} {M M' : Mem}, WFG G → hs G t (0, 11) → cb_X11_readProduct t x1_ M = some ((), M') → Ct G yX11_readProduct cX11_readProduct 3 none (14 + d) (445 + 60 * d) [.ref t, .int x1_] M none M') (ih_X11_readPart : ∀ {t : Nat} {x1_ : Int32} {M M' : Mem}, WFG G → hs G t (0, 11) → cb_X11_readPart t x1_ M = some ((), M') → Ct G yX11_readPart cX11_readPart 3 none (14 + d) (445 + 60 * d) [.ref t, .int x1_] M none M') {t : Nat} {x1_ : Int32} {M M' : Mem} (h0 : hs G t (0, 11)) (hf : b_X11_readAnd cb_X11_readExpression cb_X11_readAnd cb_X11_readNot cb_X11_readSum cb_X11_readProduct cb_X11_readPart t x1_ M = some ((), M')) : Ct G yX11_readAnd cX11_readAnd 2 none (14 + (d + 1)) (445 + 60 * (d + 1)) [.ref t, .int x1_] M none M' := by
  refine ct_v hW (by decide +kernel) (Nat.le_of_ble_eq_true rfl) (fun w h hr => ?_)
  have h : Rb G cX11_readAnd RX11 2 (14 + (d + 1)) (445 + 60 * (d + 1)) w := h
  refine (?_ : E (fun q => q = ((), M')) (b_X11_readAnd cb_X11_readExpression cb_X11_readAnd cb_X11_readNot cb_X11_readSum cb_X11_readProduct cb_X11_readPart t x1_ M) (w M 0 [(0, .ref t), (1, .int x1_)] [])) _ hf rfl
  unfold b_X11_readAnd
  refine E.m (h.aload_n 0 dX11_readAnd_0 rfl) ?_
  refine E.m (h.iload_n 1 dX11_readAnd_1 rfl) ?_
  refine E.bnd (fun _ M2 => w M2 5 [(0, .ref t), (1, .int x1_)] []) (fun _ M2 hf k => h.callV (As := [.int x1_]) (rest := []) (ih_X11_readNot hW h0 hf) lm_X11_readNot lv_m_X11_readNot ll_RX11_227 h0 lc_11 rfl rfl (Nat.le_of_ble_eq_true rfl) ⟨by omega, by omega⟩ dX11_readAnd_2 rfl k) (fun _ M2 => ?_)
  refine E.loop1 (fun M3 => w M3 5 [(0, .ref t), (1, .int x1_)] []) (fun M3 => ?_) _ _
  unfold l_X11_readAnd_5
  refine E.m (h.aload_n 0 dX11_readAnd_5 rfl) ?_
  refine E.m (h.ldcS (i := 14) 46 rfl dX11_readAnd_6) ?_
  refine E.bnd (fun u4 M5 => w M5 11 [(0, .ref t), (1, .int x1_)] [.int u4]) (fun u4 M5 hf k => h.callV (As := [.ref (gaK G 14)]) (rest := []) (c_X11_is hW h0 (by decide) hf) lm_X11_is lv_m_X11_is ll_RX11_182 h0 lc_11 rfl rfl (Nat.le_of_ble_eq_true rfl) ⟨by omega, by omega⟩ dX11_readAnd_8 rfl k) (fun u4 M5 => ?_)
  refine E.br (fun k1 k2 => h.if_eq (tgt := 32) dX11_readAnd_11 (by decide) k1 k2) ?_ ?_
  · exact E.some (ret_v hr dX11_readAnd_32)
  · refine E.m (h.aload_n 0 dX11_readAnd_14 rfl) ?_
    refine E.bnd (fun _ M7 => w M7 18 [(0, .ref t), (1, .int x1_)] []) (fun _ M7 hf k => h.callV (As := []) (rest := []) (c_X11_stepOn hW h0 hf) lm_X11_stepOn lv_m_X11_stepOn ll_RX11_193 h0 lc_11 rfl rfl (Nat.le_of_ble_eq_true rfl) ⟨by omega, by omega⟩ dX11_readAnd_15 rfl k) (fun _ M7 => ?_)
    refine E.m (h.aload_n 0 dX11_readAnd_18 rfl) ?_
    refine E.m (h.iload_n 1 dX11_readAnd_19 rfl) ?_
    refine E.bnd (fun _ M9 => w M9 23 [(0, .ref t), (1, .int x1_)] []) (fun _ M9 hf k => h.callV (As := [.int x1_]) (rest := []) (ih_X11_readNot hW h0 hf) lm_X11_readNot lv_m_X11_readNot ll_RX11_227 h0 lc_11 rfl rfl (Nat.le_of_ble_eq_true rfl) ⟨by omega, by omega⟩ dX11_readAnd_20 rfl k) (fun _ M9 => ?_)
    refine E.m (h.aload_n 0 dX11_readAnd_23 rfl) ?_
    refine E.m (h.bipush (v := (-26 : Int32)) dX11_readAnd_24 (by decide)) ?_
    refine E.bnd (fun _ M11 => w M11 29 [(0, .ref t), (1, .int x1_)] []) (fun _ M11 hf k => h.callV (As := [.int (-26 : Int32)]) (rest := []) (c_X11_lay hW h0 hf) lm_X11_lay lv_m_X11_lay ll_RX11_203 h0 lc_11 rfl rfl (Nat.le_of_ble_eq_true rfl) ⟨by omega, by omega⟩ dX11_readAnd_26 rfl k) (fun _ M11 => ?_)
    refine E.m (h.goto (tgt := 5) dX11_readAnd_29 (by decide)) ?_
    exact E.some (fun q => q)
set_option maxRecDepth 20000 in
theorem cb_X11_readNot_ok {G : Ctx} (hW : WFG G) {d : Nat} {cb_X11_readExpression : Nat → Int32 → Mem → Option (Unit × Mem)} {cb_X11_readAnd : Nat → Int32 → Mem → Option (Unit × Mem)} {cb_X11_readNot : Nat → Int32 → Mem → Option (Unit × Mem)} {cb_X11_readSum : Nat → Int32 → Mem → Option (Unit × Mem)} {cb_X11_readProduct : Nat → Int32 → Mem → Option (Unit × Mem)} {cb_X11_readPart : Nat → Int32 → Mem → Option (Unit × Mem)} (ih_X11_readExpression : ∀ {t : Nat} {x1_ : Int32} {M M' : Mem}, WFG G → hs G t (0, 11) → cb_X11_readExpression t x1_ M = some ((), M') → Ct G yX11_readExpression cX11_readExpression 3 none (14 + d) (445 + 60 * d) [.ref t, .int x1_] M none M') (ih_X11_readAnd : ∀ {t : Nat} {x1_ : Int32} {M M' : Mem}, WFG G → hs G t (0, 11) → cb_X11_readAnd t x1_ M = some ((), M') → Ct G yX11_readAnd cX11_readAnd 2 none (14 + d) (445 + 60 * d) [.ref t, .int x1_] M none M') (ih_X11_readNot : ∀ {t : Nat} {x1_ : Int32} {M M' : Mem}, WFG G → hs G t (0, 11) → cb_X11_readNot t x1_ M = some ((), M') → Ct G yX11_readNot cX11_readNot 4 none (14 + d) (445 + 60 * d) [.ref t, .int x1_] M none M') (ih_X11_readSum : ∀ {t : Nat} {x1_ : Int32} {M M' : Mem}, WFG G → hs G t (0, 11) → cb_X11_readSum t x1_ M = some ((), M') → Ct G yX11_readSum cX11_readSum 3 none (14 + d) (445 + 60 * d) [.ref t, .int x1_] M none M') (ih_X11_readProduct : ∀ {t : Nat} {x1_ : Int32} {M M' : Mem}, WFG G → hs G t (0, 11) → cb_X11_readProduct t x1_ M = some ((), M') → Ct G yX11_readProduct cX11_readProduct 3 none (14 + d) (445 + 60 * d) [.ref t, .int x1_] M none M') (ih_X11_readPart : ∀ {t : Nat} {x1_ : Int32} {M M' : Mem}, WFG G → hs G t (0, 11) → cb_X11_readPart t x1_ M = some ((), M') → Ct G yX11_readPart cX11_readPart 3 none (14 + d) (445 + 60 * d) [.ref t, .int x1_] M none M') {t : Nat} {x1_ : Int32} {M M' : Mem} (h0 : hs G t (0, 11)) (hf : b_X11_readNot cb_X11_readExpression cb_X11_readAnd cb_X11_readNot cb_X11_readSum cb_X11_readProduct cb_X11_readPart t x1_ M = some ((), M')) : Ct G yX11_readNot cX11_readNot 4 none (14 + (d + 1)) (445 + 60 * (d + 1)) [.ref t, .int x1_] M none M' := by
  refine ct_v hW (by decide +kernel) (Nat.le_of_ble_eq_true rfl) (fun w h hr => ?_)
  have h : Rb G cX11_readNot RX11 4 (14 + (d + 1)) (445 + 60 * (d + 1)) w := h
  refine (?_ : E (fun q => q = ((), M')) (b_X11_readNot cb_X11_readExpression cb_X11_readAnd cb_X11_readNot cb_X11_readSum cb_X11_readProduct cb_X11_readPart t x1_ M) (w M 0 [(0, .ref t), (1, .int x1_)] [])) _ hf rfl
  unfold b_X11_readNot
  refine E.m (h.iconst (v := (0 : Int32)) dX11_readNot_0 (by decide)) ?_
  refine E.m (h.istore_n dX11_readNot_1 (by decide) rfl) ?_
  refine E.m (h.sub [1, 2, 0] rfl) ?_
  refine E.loop2 (fun k1 M2 => w M2 2 [(0, .ref t), (1, .int x1_), (2, .int k1)] []) (fun k1 M2 => ?_) _ _ _
  unfold l_X11_readNot_2
  refine E.m (h.aload_n 0 dX11_readNot_2 rfl) ?_
  refine E.m (h.ldcS (i := 15) 45 rfl dX11_readNot_3) ?_
  refine E.bnd (fun u3 M4 => w M4 8 [(0, .ref t), (1, .int x1_), (2, .int k1)] [.int u3]) (fun u3 M4 hf k => h.callV (As := [.ref (gaK G 15)]) (rest := []) (c_X11_is hW h0 (by decide) hf) lm_X11_is lv_m_X11_is ll_RX11_182 h0 lc_11 rfl rfl (Nat.le_of_ble_eq_true rfl) ⟨by omega, by omega⟩ dX11_readNot_5 rfl k) (fun u3 M4 => ?_)
  refine E.br (fun k1 k2 => h.if_eq (tgt := 39) dX11_readNot_8 (by decide) k1 k2) ?_ ?_
  · refine E.m (h.aload_n 0 dX11_readNot_39 rfl) ?_
    refine E.m (h.iload_n 1 dX11_readNot_40 rfl) ?_
    refine E.bnd (fun _ M6 => w M6 44 [(0, .ref t), (1, .int x1_), (2, .int k1)] []) (fun _ M6 hf k => h.callV (As := [.int x1_]) (rest := []) (ih_X11_readSum hW h0 hf) lm_X11_readSum lv_m_X11_readSum ll_RX11_224 h0 lc_11 rfl rfl (Nat.le_of_ble_eq_true rfl) ⟨by omega, by omega⟩ dX11_readNot_41 rfl k) (fun _ M6 => ?_)
    refine E.m (h.aload_n 0 dX11_readNot_44 rfl) ?_
    refine E.m (h.bipush (v := (60 : Int32)) dX11_readNot_45 (by decide)) ?_
    refine E.bnd (fun u7 M8 => w M8 50 [(0, .ref t), (1, .int x1_), (2, .int k1)] [.int u7]) (fun u7 M8 hf k => h.callV (As := [.int (60 : Int32)]) (rest := []) (c_X11_isMarked hW h0 hf) lm_X11_isMarked lv_m_X11_isMarked ll_RX11_186 h0 lc_11 rfl rfl (Nat.le_of_ble_eq_true rfl) ⟨by omega, by omega⟩ dX11_readNot_47 rfl k) (fun u7 M8 => ?_)
    refine E.join1 (fun M9 => w M9 93 [(0, .ref t), (1, .int x1_), (2, .int k1)] []) (fun M9 => ?_) (fun J93 hJ93 => ?_)
    · refine E.m (h.iconst (v := (0 : Int32)) dX11_readNot_93 (by decide)) ?_
      refine E.m (h.istore_n dX11_readNot_94 (by decide) rfl) ?_
      refine E.m (h.sub [1, 2, 3, 0] rfl) ?_
      refine E.loop2 (fun k10 M11 => w M11 95 [(0, .ref t), (1, .int x1_), (2, .int k1), (3, .int k10)] []) (fun k10 M11 => ?_) _ _ _
      unfold l_X11_readNot_95
      refine E.m (h.iload_n 3 dX11_readNot_95 rfl) ?_
      refine E.m (h.iload_n 2 dX11_readNot_96 rfl) ?_
      refine E.br (fun k1 k2 => h.icmp_ge (tgt := 112) dX11_readNot_97 (by decide) k1 k2) ?_ ?_
      · exact E.some (ret_v hr dX11_readNot_112)
      · refine E.m (h.aload_n 0 dX11_readNot_100 rfl) ?_
        refine E.m (h.bipush (v := (-28 : Int32)) dX11_readNot_101 (by decide)) ?_
        refine E.bnd (fun _ M13 => w M13 106 [(0, .ref t), (1, .int x1_), (2, .int k1), (3, .int k10)] []) (fun _ M13 hf k => h.callV (As := [.int (-28 : Int32)]) (rest := []) (c_X11_lay hW h0 hf) lm_X11_lay lv_m_X11_lay ll_RX11_203 h0 lc_11 rfl rfl (Nat.le_of_ble_eq_true rfl) ⟨by omega, by omega⟩ dX11_readNot_103 rfl k) (fun _ M13 => ?_)
        refine E.m (h.iinc (v := (1 : Int32)) 3 dX11_readNot_106 rfl (by decide) (by decide) rfl) ?_
        refine E.nmL (fun y14 => ?_)
        refine E.m (h.goto (tgt := 95) dX11_readNot_109 (by decide)) ?_
        refine E.m (h.sub [1, 2, 3, 0] rfl) ?_
        exact E.some (fun q => q)
    refine E.join1 (fun M15 => w M15 62 [(0, .ref t), (1, .int x1_), (2, .int k1)] []) (fun M15 => ?_) (fun J62 hJ62 => ?_)
    · refine E.m (h.aload_n 0 dX11_readNot_62 rfl) ?_
      refine E.m (h.bipush (v := (60 : Int32)) dX11_readNot_63 (by decide)) ?_
      refine E.bnd (fun u16 M17 => w M17 68 [(0, .ref t), (1, .int x1_), (2, .int k1)] [.int u16]) (fun u16 M17 hf k => h.callV (As := [.int (60 : Int32)]) (rest := []) (c_X11_isMarked hW h0 hf) lm_X11_isMarked lv_m_X11_isMarked ll_RX11_186 h0 lc_11 rfl rfl (Nat.le_of_ble_eq_true rfl) ⟨by omega, by omega⟩ dX11_readNot_65 rfl k) (fun u16 M17 => ?_)
      refine E.join1 (fun z18 => w M17 78 [(0, .ref t), (1, .int x1_), (2, .int k1)] [.int z18]) (fun z18 => ?_) (fun J78 hJ78 => ?_)
      · refine E.m (h.istore_n dX11_readNot_78 (by decide) rfl) ?_
        refine E.m (h.aload_n 1 dX11_readNot_79 rfl) ?_
        refine E.bnd (fun _ M20 => w M20 83 [(3, .int z18), (0, .ref t), (1, .int x1_), (2, .int k1)] []) (fun _ M20 hf k => h.callV (As := []) (rest := []) (c_X11_stepOn hW h0 hf) lm_X11_stepOn lv_m_X11_stepOn ll_RX11_193 h0 lc_11 rfl rfl (Nat.le_of_ble_eq_true rfl) ⟨by omega, by omega⟩ dX11_readNot_80 rfl k) (fun _ M20 => ?_)
        refine E.m (h.aload_n 1 dX11_readNot_83 rfl) ?_
        refine E.m (h.iload_n 2 dX11_readNot_84 rfl) ?_
        refine E.bnd (fun _ M22 => w M22 88 [(3, .int z18), (0, .ref t), (1, .int x1_), (2, .int k1)] []) (fun _ M22 hf k => h.callV (As := [.int x1_]) (rest := []) (ih_X11_readSum hW h0 hf) lm_X11_readSum lv_m_X11_readSum ll_RX11_224 h0 lc_11 rfl rfl (Nat.le_of_ble_eq_true rfl) ⟨by omega, by omega⟩ dX11_readNot_85 rfl k) (fun _ M22 => ?_)
        refine E.m (h.aload_n 1 dX11_readNot_88 rfl) ?_
        refine E.m (h.iload_n 0 dX11_readNot_89 rfl) ?_
        refine E.bnd (fun _ M24 => w M24 93 [(3, .int z18), (0, .ref t), (1, .int x1_), (2, .int k1)] []) (fun _ M24 hf k => h.callV (As := [.int z18]) (rest := []) (c_X11_lay hW h0 hf) lm_X11_lay lv_m_X11_lay ll_RX11_203 h0 lc_11 rfl rfl (Nat.le_of_ble_eq_true rfl) ⟨by omega, by omega⟩ dX11_readNot_90 rfl k) (fun _ M24 => ?_)
        refine E.m (h.sub [1, 2, 3] rfl) ?_
        exact hJ93 _
      refine E.br (fun k1 k2 => h.if_eq (tgt := 76) dX11_readNot_68 (by decide) k1 k2) ?_ ?_
      · refine E.m (h.bipush (v := (-25 : Int32)) dX11_readNot_76 (by decide)) ?_
        exact hJ78 _
      · refine E.m (h.bipush (v := (-24 : Int32)) dX11_readNot_71 (by decide)) ?_
        refine E.m (h.goto (tgt := 78) dX11_readNot_73 (by decide)) ?_
        exact hJ78 _
    refine E.br (fun k1 k2 => h.if_ne (tgt := 62) dX11_readNot_50 (by decide) k2 k1) ?_ ?_
    · refine E.m (h.aload_n 0 dX11_readNot_53 rfl) ?_
      refine E.m (h.bipush (v := (61 : Int32)) dX11_readNot_54 (by decide)) ?_
      refine E.bnd (fun u25 M26 => w M26 59 [(0, .ref t), (1, .int x1_), (2, .int k1)] [.int u25]) (fun u25 M26 hf k => h.callV (As := [.int (61 : Int32)]) (rest := []) (c_X11_isMarked hW h0 hf) lm_X11_isMarked lv_m_X11_isMarked ll_RX11_186 h0 lc_11 rfl rfl (Nat.le_of_ble_eq_true rfl) ⟨by omega, by omega⟩ dX11_readNot_56 rfl k) (fun u25 M26 => ?_)
      refine E.br (fun k1 k2 => h.if_eq (tgt := 93) dX11_readNot_59 (by decide) k1 k2) ?_ ?_
      · exact hJ93 _
      · exact hJ62 _
    · exact hJ62 _
  · refine E.m (h.iload_n 2 dX11_readNot_11 rfl) ?_
    refine E.m (h.bipush (v := (6 : Int32)) dX11_readNot_12 (by decide)) ?_
    refine E.join1 (fun M27 => w M27 22 [(0, .ref t), (1, .int x1_), (2, .int k1)] []) (fun M27 => ?_) (fun J22 hJ22 => ?_)
    · refine E.m (h.iinc (v := (1 : Int32)) 2 dX11_readNot_22 rfl (by decide) (by decide) rfl) ?_
      refine E.nmL (fun y28 => ?_)
      refine E.m (h.aload_n 1 dX11_readNot_25 rfl) ?_
      refine E.m (h.get h0 lf_RX11_168 dX11_readNot_26 fv_11_19) ?_
      refine E.br (fun k1 k2 => h.if_ne (tgt := 2) dX11_readNot_29 (by decide) k2 k1) ?_ ?_
      · refine E.m (h.aload_n 1 dX11_readNot_32 rfl) ?_
        refine E.bnd (fun _ M30 => w M30 36 [(2, .int y28), (0, .ref t), (1, .int x1_)] []) (fun _ M30 hf k => h.callV (As := []) (rest := []) (c_X11_stepOn hW h0 hf) lm_X11_stepOn lv_m_X11_stepOn ll_RX11_193 h0 lc_11 rfl rfl (Nat.le_of_ble_eq_true rfl) ⟨by omega, by omega⟩ dX11_readNot_33 rfl k) (fun _ M30 => ?_)
        refine E.m (h.goto (tgt := 2) dX11_readNot_36 (by decide)) ?_
        refine E.m (h.sub [1, 2, 0] rfl) ?_
        exact E.some (fun q => q)
      · refine E.m (h.sub [1, 2, 0] rfl) ?_
        exact E.some (fun q => q)
    refine E.br (fun k1 k2 => h.icmp_ne (tgt := 22) dX11_readNot_14 (by decide) k2 k1) ?_ ?_
    · refine E.m (h.aload_n 0 dX11_readNot_17 rfl) ?_
      refine E.m (h.iconst (v := (2 : Int32)) dX11_readNot_18 (by decide)) ?_
      refine E.bnd (fun _ M32 => w M32 22 [(0, .ref t), (1, .int x1_), (2, .int k1)] []) (fun _ M32 hf k => h.callV (As := [.int (2 : Int32)]) (rest := []) (c_X11_wrong hW h0 hf) lm_X11_wrong lv_m_X11_wrong ll_RX11_189 h0 lc_11 rfl rfl (Nat.le_of_ble_eq_true rfl) ⟨by omega, by omega⟩ dX11_readNot_19 rfl k) (fun _ M32 => ?_)
      exact hJ22 _
    · exact hJ22 _
set_option maxRecDepth 20000 in
theorem cb_X11_readSum_ok {G : Ctx} (hW : WFG G) {d : Nat} {cb_X11_readExpression : Nat → Int32 → Mem → Option (Unit × Mem)} {cb_X11_readAnd : Nat → Int32 → Mem → Option (Unit × Mem)} {cb_X11_readNot : Nat → Int32 → Mem → Option (Unit × Mem)} {cb_X11_readSum : Nat → Int32 → Mem → Option (Unit × Mem)} {cb_X11_readProduct : Nat → Int32 → Mem → Option (Unit × Mem)} {cb_X11_readPart : Nat → Int32 → Mem → Option (Unit × Mem)} (ih_X11_readExpression : ∀ {t : Nat} {x1_ : Int32} {M M' : Mem}, WFG G → hs G t (0, 11) → cb_X11_readExpression t x1_ M = some ((), M') → Ct G yX11_readExpression cX11_readExpression 3 none (14 + d) (445 + 60 * d) [.ref t, .int x1_] M none M') (ih_X11_readAnd : ∀ {t : Nat} {x1_ : Int32} {M M' : Mem}, WFG G → hs G t (0, 11) → cb_X11_readAnd t x1_ M = some ((), M') → Ct G yX11_readAnd cX11_readAnd 2 none (14 + d) (445 + 60 * d) [.ref t, .int x1_] M none M') (ih_X11_readNot : ∀ {t : Nat} {x1_ : Int32} {M M' : Mem}, WFG G → hs G t (0, 11) → cb_X11_readNot t x1_ M = some ((), M') → Ct G yX11_readNot cX11_readNot 4 none (14 + d) (445 + 60 * d) [.ref t, .int x1_] M none M') (ih_X11_readSum : ∀ {t : Nat} {x1_ : Int32} {M M' : Mem}, WFG G → hs G t (0, 11) → cb_X11_readSum t x1_ M = some ((), M') → Ct G yX11_readSum cX11_readSum 3 none (14 + d) (445 + 60 * d) [.ref t, .int x1_] M none M') (ih_X11_readProduct : ∀ {t : Nat} {x1_ : Int32} {M M' : Mem}, WFG G → hs G t (0, 11) → cb_X11_readProduct t x1_ M = some ((), M') → Ct G yX11_readProduct cX11_readProduct 3 none (14 + d) (445 + 60 * d) [.ref t, .int x1_] M none M') (ih_X11_readPart : ∀ {t : Nat} {x1_ : Int32} {M M' : Mem}, WFG G → hs G t (0, 11) → cb_X11_readPart t x1_ M = some ((), M') → Ct G yX11_readPart cX11_readPart 3 none (14 + d) (445 + 60 * d) [.ref t, .int x1_] M none M') {t : Nat} {x1_ : Int32} {M M' : Mem} (h0 : hs G t (0, 11)) (hf : b_X11_readSum cb_X11_readExpression cb_X11_readAnd cb_X11_readNot cb_X11_readSum cb_X11_readProduct cb_X11_readPart t x1_ M = some ((), M')) : Ct G yX11_readSum cX11_readSum 3 none (14 + (d + 1)) (445 + 60 * (d + 1)) [.ref t, .int x1_] M none M' := by
  refine ct_v hW (by decide +kernel) (Nat.le_of_ble_eq_true rfl) (fun w h hr => ?_)
  have h : Rb G cX11_readSum RX11 3 (14 + (d + 1)) (445 + 60 * (d + 1)) w := h
  refine (?_ : E (fun q => q = ((), M')) (b_X11_readSum cb_X11_readExpression cb_X11_readAnd cb_X11_readNot cb_X11_readSum cb_X11_readProduct cb_X11_readPart t x1_ M) (w M 0 [(0, .ref t), (1, .int x1_)] [])) _ hf rfl
  unfold b_X11_readSum
  refine E.m (h.aload_n 0 dX11_readSum_0 rfl) ?_
  refine E.m (h.iload_n 1 dX11_readSum_1 rfl) ?_
  refine E.bnd (fun _ M2 => w M2 5 [(0, .ref t), (1, .int x1_)] []) (fun _ M2 hf k => h.callV (As := [.int x1_]) (rest := []) (ih_X11_readProduct hW h0 hf) lm_X11_readProduct lv_m_X11_readProduct ll_RX11_219 h0 lc_11 rfl rfl (Nat.le_of_ble_eq_true rfl) ⟨by omega, by omega⟩ dX11_readSum_2 rfl k) (fun _ M2 => ?_)
  refine E.loop1 (fun M3 => w M3 5 [(0, .ref t), (1, .int x1_)] []) (fun M3 => ?_) _ _
  unfold l_X11_readSum_5
  refine E.m (h.aload_n 0 dX11_readSum_5 rfl) ?_
  refine E.m (h.bipush (v := (43 : Int32)) dX11_readSum_6 (by decide)) ?_
  refine E.bnd (fun u4 M5 => w M5 11 [(0, .ref t), (1, .int x1_)] [.int u4]) (fun u4 M5 hf k => h.callV (As := [.int (43 : Int32)]) (rest := []) (c_X11_isMarked hW h0 hf) lm_X11_isMarked lv_m_X11_isMarked ll_RX11_186 h0 lc_11 rfl rfl (Nat.le_of_ble_eq_true rfl) ⟨by omega, by omega⟩ dX11_readSum_8 rfl k) (fun u4 M5 => ?_)
  refine E.join1 (fun M6 => w M6 23 [(0, .ref t), (1, .int x1_)] []) (fun M6 => ?_) (fun J23 hJ23 => ?_)
  · refine E.m (h.aload_n 0 dX11_readSum_23 rfl) ?_
    refine E.m (h.bipush (v := (43 : Int32)) dX11_readSum_24 (by decide)) ?_
    refine E.bnd (fun u7 M8 => w M8 29 [(0, .ref t), (1, .int x1_)] [.int u7]) (fun u7 M8 hf k => h.callV (As := [.int (43 : Int32)]) (rest := []) (c_X11_isMarked hW h0 hf) lm_X11_isMarked lv_m_X11_isMarked ll_RX11_186 h0 lc_11 rfl rfl (Nat.le_of_ble_eq_true rfl) ⟨by omega, by omega⟩ dX11_readSum_26 rfl k) (fun u7 M8 => ?_)
    refine E.join1 (fun z9 => w M8 39 [(0, .ref t), (1, .int x1_)] [.int z9]) (fun z9 => ?_) (fun J39 hJ39 => ?_)
    · refine E.m (h.istore_n dX11_readSum_39 (by decide) rfl) ?_
      refine E.m (h.aload_n 1 dX11_readSum_40 rfl) ?_
      refine E.bnd (fun _ M11 => w M11 44 [(2, .int z9), (0, .ref t), (1, .int x1_)] []) (fun _ M11 hf k => h.callV (As := []) (rest := []) (c_X11_stepOn hW h0 hf) lm_X11_stepOn lv_m_X11_stepOn ll_RX11_193 h0 lc_11 rfl rfl (Nat.le_of_ble_eq_true rfl) ⟨by omega, by omega⟩ dX11_readSum_41 rfl k) (fun _ M11 => ?_)
      refine E.m (h.aload_n 1 dX11_readSum_44 rfl) ?_
      refine E.m (h.iload_n 2 dX11_readSum_45 rfl) ?_
      refine E.bnd (fun _ M13 => w M13 49 [(2, .int z9), (0, .ref t), (1, .int x1_)] []) (fun _ M13 hf k => h.callV (As := [.int x1_]) (rest := []) (ih_X11_readProduct hW h0 hf) lm_X11_readProduct lv_m_X11_readProduct ll_RX11_219 h0 lc_11 rfl rfl (Nat.le_of_ble_eq_true rfl) ⟨by omega, by omega⟩ dX11_readSum_46 rfl k) (fun _ M13 => ?_)
      refine E.m (h.aload_n 1 dX11_readSum_49 rfl) ?_
      refine E.m (h.iload_n 0 dX11_readSum_50 rfl) ?_
      refine E.bnd (fun _ M15 => w M15 54 [(2, .int z9), (0, .ref t), (1, .int x1_)] []) (fun _ M15 hf k => h.callV (As := [.int z9]) (rest := []) (c_X11_lay hW h0 hf) lm_X11_lay lv_m_X11_lay ll_RX11_203 h0 lc_11 rfl rfl (Nat.le_of_ble_eq_true rfl) ⟨by omega, by omega⟩ dX11_readSum_51 rfl k) (fun _ M15 => ?_)
      refine E.m (h.goto (tgt := 5) dX11_readSum_54 (by decide)) ?_
      refine E.m (h.sub [1, 2] rfl) ?_
      exact E.some (fun q => q)
    refine E.br (fun k1 k2 => h.if_eq (tgt := 37) dX11_readSum_29 (by decide) k1 k2) ?_ ?_
    · refine E.m (h.bipush (v := (-21 : Int32)) dX11_readSum_37 (by decide)) ?_
      exact hJ39 _
    · refine E.m (h.bipush (v := (-20 : Int32)) dX11_readSum_32 (by decide)) ?_
      refine E.m (h.goto (tgt := 39) dX11_readSum_34 (by decide)) ?_
      exact hJ39 _
  refine E.br (fun k1 k2 => h.if_ne (tgt := 23) dX11_readSum_11 (by decide) k2 k1) ?_ ?_
  · refine E.m (h.aload_n 0 dX11_readSum_14 rfl) ?_
    refine E.m (h.bipush (v := (45 : Int32)) dX11_readSum_15 (by decide)) ?_
    refine E.bnd (fun u16 M17 => w M17 20 [(0, .ref t), (1, .int x1_)] [.int u16]) (fun u16 M17 hf k => h.callV (As := [.int (45 : Int32)]) (rest := []) (c_X11_isMarked hW h0 hf) lm_X11_isMarked lv_m_X11_isMarked ll_RX11_186 h0 lc_11 rfl rfl (Nat.le_of_ble_eq_true rfl) ⟨by omega, by omega⟩ dX11_readSum_17 rfl k) (fun u16 M17 => ?_)
    refine E.br (fun k1 k2 => h.if_eq (tgt := 57) dX11_readSum_20 (by decide) k1 k2) ?_ ?_
    · exact E.some (ret_v hr dX11_readSum_57)
    · exact hJ23 _
  · exact hJ23 _
set_option maxRecDepth 20000 in
theorem cb_X11_readProduct_ok {G : Ctx} (hW : WFG G) {d : Nat} {cb_X11_readExpression : Nat → Int32 → Mem → Option (Unit × Mem)} {cb_X11_readAnd : Nat → Int32 → Mem → Option (Unit × Mem)} {cb_X11_readNot : Nat → Int32 → Mem → Option (Unit × Mem)} {cb_X11_readSum : Nat → Int32 → Mem → Option (Unit × Mem)} {cb_X11_readProduct : Nat → Int32 → Mem → Option (Unit × Mem)} {cb_X11_readPart : Nat → Int32 → Mem → Option (Unit × Mem)} (ih_X11_readExpression : ∀ {t : Nat} {x1_ : Int32} {M M' : Mem}, WFG G → hs G t (0, 11) → cb_X11_readExpression t x1_ M = some ((), M') → Ct G yX11_readExpression cX11_readExpression 3 none (14 + d) (445 + 60 * d) [.ref t, .int x1_] M none M') (ih_X11_readAnd : ∀ {t : Nat} {x1_ : Int32} {M M' : Mem}, WFG G → hs G t (0, 11) → cb_X11_readAnd t x1_ M = some ((), M') → Ct G yX11_readAnd cX11_readAnd 2 none (14 + d) (445 + 60 * d) [.ref t, .int x1_] M none M') (ih_X11_readNot : ∀ {t : Nat} {x1_ : Int32} {M M' : Mem}, WFG G → hs G t (0, 11) → cb_X11_readNot t x1_ M = some ((), M') → Ct G yX11_readNot cX11_readNot 4 none (14 + d) (445 + 60 * d) [.ref t, .int x1_] M none M') (ih_X11_readSum : ∀ {t : Nat} {x1_ : Int32} {M M' : Mem}, WFG G → hs G t (0, 11) → cb_X11_readSum t x1_ M = some ((), M') → Ct G yX11_readSum cX11_readSum 3 none (14 + d) (445 + 60 * d) [.ref t, .int x1_] M none M') (ih_X11_readProduct : ∀ {t : Nat} {x1_ : Int32} {M M' : Mem}, WFG G → hs G t (0, 11) → cb_X11_readProduct t x1_ M = some ((), M') → Ct G yX11_readProduct cX11_readProduct 3 none (14 + d) (445 + 60 * d) [.ref t, .int x1_] M none M') (ih_X11_readPart : ∀ {t : Nat} {x1_ : Int32} {M M' : Mem}, WFG G → hs G t (0, 11) → cb_X11_readPart t x1_ M = some ((), M') → Ct G yX11_readPart cX11_readPart 3 none (14 + d) (445 + 60 * d) [.ref t, .int x1_] M none M') {t : Nat} {x1_ : Int32} {M M' : Mem} (h0 : hs G t (0, 11)) (hf : b_X11_readProduct cb_X11_readExpression cb_X11_readAnd cb_X11_readNot cb_X11_readSum cb_X11_readProduct cb_X11_readPart t x1_ M = some ((), M')) : Ct G yX11_readProduct cX11_readProduct 3 none (14 + (d + 1)) (445 + 60 * (d + 1)) [.ref t, .int x1_] M none M' := by
  refine ct_v hW (by decide +kernel) (Nat.le_of_ble_eq_true rfl) (fun w h hr => ?_)
  have h : Rb G cX11_readProduct RX11 3 (14 + (d + 1)) (445 + 60 * (d + 1)) w := h
  refine (?_ : E (fun q => q = ((), M')) (b_X11_readProduct cb_X11_readExpression cb_X11_readAnd cb_X11_readNot cb_X11_readSum cb_X11_readProduct cb_X11_readPart t x1_ M) (w M 0 [(0, .ref t), (1, .int x1_)] [])) _ hf rfl
  unfold b_X11_readProduct
  refine E.m (h.aload_n 0 dX11_readProduct_0 rfl) ?_
  refine E.m (h.iload_n 1 dX11_readProduct_1 rfl) ?_
  refine E.bnd (fun _ M2 => w M2 5 [(0, .ref t), (1, .int x1_)] []) (fun _ M2 hf k => h.callV (As := [.int x1_]) (rest := []) (ih_X11_readPart hW h0 hf) lm_X11_readPart lv_m_X11_readPart ll_RX11_216 h0 lc_11 rfl rfl (Nat.le_of_ble_eq_true rfl) ⟨by omega, by omega⟩ dX11_readProduct_2 rfl k) (fun _ M2 => ?_)
  refine E.loop1 (fun M3 => w M3 5 [(0, .ref t), (1, .int x1_)] []) (fun M3 => ?_) _ _
  unfold l_X11_readProduct_5
  refine E.m (h.aload_n 0 dX11_readProduct_5 rfl) ?_
  refine E.m (h.bipush (v := (42 : Int32)) dX11_readProduct_6 (by decide)) ?_
  refine E.bnd (fun u4 M5 => w M5 11 [(0, .ref t), (1, .int x1_)] [.int u4]) (fun u4 M5 hf k => h.callV (As := [.int (42 : Int32)]) (rest := []) (c_X11_isMarked hW h0 hf) lm_X11_isMarked lv_m_X11_isMarked ll_RX11_186 h0 lc_11 rfl rfl (Nat.le_of_ble_eq_true rfl) ⟨by omega, by omega⟩ dX11_readProduct_8 rfl k) (fun u4 M5 => ?_)
  refine E.join1 (fun M6 => w M6 23 [(0, .ref t), (1, .int x1_)] []) (fun M6 => ?_) (fun J23 hJ23 => ?_)
  · refine E.m (h.aload_n 0 dX11_readProduct_23 rfl) ?_
    refine E.m (h.bipush (v := (42 : Int32)) dX11_readProduct_24 (by decide)) ?_
    refine E.bnd (fun u7 M8 => w M8 29 [(0, .ref t), (1, .int x1_)] [.int u7]) (fun u7 M8 hf k => h.callV (As := [.int (42 : Int32)]) (rest := []) (c_X11_isMarked hW h0 hf) lm_X11_isMarked lv_m_X11_isMarked ll_RX11_186 h0 lc_11 rfl rfl (Nat.le_of_ble_eq_true rfl) ⟨by omega, by omega⟩ dX11_readProduct_26 rfl k) (fun u7 M8 => ?_)
    refine E.join1 (fun z9 => w M8 39 [(0, .ref t), (1, .int x1_)] [.int z9]) (fun z9 => ?_) (fun J39 hJ39 => ?_)
    · refine E.m (h.istore_n dX11_readProduct_39 (by decide) rfl) ?_
      refine E.m (h.aload_n 1 dX11_readProduct_40 rfl) ?_
      refine E.bnd (fun _ M11 => w M11 44 [(2, .int z9), (0, .ref t), (1, .int x1_)] []) (fun _ M11 hf k => h.callV (As := []) (rest := []) (c_X11_stepOn hW h0 hf) lm_X11_stepOn lv_m_X11_stepOn ll_RX11_193 h0 lc_11 rfl rfl (Nat.le_of_ble_eq_true rfl) ⟨by omega, by omega⟩ dX11_readProduct_41 rfl k) (fun _ M11 => ?_)
      refine E.m (h.aload_n 1 dX11_readProduct_44 rfl) ?_
      refine E.m (h.iload_n 2 dX11_readProduct_45 rfl) ?_
      refine E.bnd (fun _ M13 => w M13 49 [(2, .int z9), (0, .ref t), (1, .int x1_)] []) (fun _ M13 hf k => h.callV (As := [.int x1_]) (rest := []) (ih_X11_readPart hW h0 hf) lm_X11_readPart lv_m_X11_readPart ll_RX11_216 h0 lc_11 rfl rfl (Nat.le_of_ble_eq_true rfl) ⟨by omega, by omega⟩ dX11_readProduct_46 rfl k) (fun _ M13 => ?_)
      refine E.m (h.aload_n 1 dX11_readProduct_49 rfl) ?_
      refine E.m (h.iload_n 0 dX11_readProduct_50 rfl) ?_
      refine E.bnd (fun _ M15 => w M15 54 [(2, .int z9), (0, .ref t), (1, .int x1_)] []) (fun _ M15 hf k => h.callV (As := [.int z9]) (rest := []) (c_X11_lay hW h0 hf) lm_X11_lay lv_m_X11_lay ll_RX11_203 h0 lc_11 rfl rfl (Nat.le_of_ble_eq_true rfl) ⟨by omega, by omega⟩ dX11_readProduct_51 rfl k) (fun _ M15 => ?_)
      refine E.m (h.goto (tgt := 5) dX11_readProduct_54 (by decide)) ?_
      refine E.m (h.sub [1, 2] rfl) ?_
      exact E.some (fun q => q)
    refine E.br (fun k1 k2 => h.if_eq (tgt := 37) dX11_readProduct_29 (by decide) k1 k2) ?_ ?_
    · refine E.m (h.bipush (v := (-23 : Int32)) dX11_readProduct_37 (by decide)) ?_
      exact hJ39 _
    · refine E.m (h.bipush (v := (-22 : Int32)) dX11_readProduct_32 (by decide)) ?_
      refine E.m (h.goto (tgt := 39) dX11_readProduct_34 (by decide)) ?_
      exact hJ39 _
  refine E.br (fun k1 k2 => h.if_ne (tgt := 23) dX11_readProduct_11 (by decide) k2 k1) ?_ ?_
  · refine E.m (h.aload_n 0 dX11_readProduct_14 rfl) ?_
    refine E.m (h.bipush (v := (47 : Int32)) dX11_readProduct_15 (by decide)) ?_
    refine E.bnd (fun u16 M17 => w M17 20 [(0, .ref t), (1, .int x1_)] [.int u16]) (fun u16 M17 hf k => h.callV (As := [.int (47 : Int32)]) (rest := []) (c_X11_isMarked hW h0 hf) lm_X11_isMarked lv_m_X11_isMarked ll_RX11_186 h0 lc_11 rfl rfl (Nat.le_of_ble_eq_true rfl) ⟨by omega, by omega⟩ dX11_readProduct_17 rfl k) (fun u16 M17 => ?_)
    refine E.br (fun k1 k2 => h.if_eq (tgt := 57) dX11_readProduct_20 (by decide) k1 k2) ?_ ?_
    · exact E.some (ret_v hr dX11_readProduct_57)
    · exact hJ23 _
  · exact hJ23 _
set_option maxRecDepth 20000 in
theorem cb_X11_readPart_ok {G : Ctx} (hW : WFG G) {d : Nat} {cb_X11_readExpression : Nat → Int32 → Mem → Option (Unit × Mem)} {cb_X11_readAnd : Nat → Int32 → Mem → Option (Unit × Mem)} {cb_X11_readNot : Nat → Int32 → Mem → Option (Unit × Mem)} {cb_X11_readSum : Nat → Int32 → Mem → Option (Unit × Mem)} {cb_X11_readProduct : Nat → Int32 → Mem → Option (Unit × Mem)} {cb_X11_readPart : Nat → Int32 → Mem → Option (Unit × Mem)} (ih_X11_readExpression : ∀ {t : Nat} {x1_ : Int32} {M M' : Mem}, WFG G → hs G t (0, 11) → cb_X11_readExpression t x1_ M = some ((), M') → Ct G yX11_readExpression cX11_readExpression 3 none (14 + d) (445 + 60 * d) [.ref t, .int x1_] M none M') (ih_X11_readAnd : ∀ {t : Nat} {x1_ : Int32} {M M' : Mem}, WFG G → hs G t (0, 11) → cb_X11_readAnd t x1_ M = some ((), M') → Ct G yX11_readAnd cX11_readAnd 2 none (14 + d) (445 + 60 * d) [.ref t, .int x1_] M none M') (ih_X11_readNot : ∀ {t : Nat} {x1_ : Int32} {M M' : Mem}, WFG G → hs G t (0, 11) → cb_X11_readNot t x1_ M = some ((), M') → Ct G yX11_readNot cX11_readNot 4 none (14 + d) (445 + 60 * d) [.ref t, .int x1_] M none M') (ih_X11_readSum : ∀ {t : Nat} {x1_ : Int32} {M M' : Mem}, WFG G → hs G t (0, 11) → cb_X11_readSum t x1_ M = some ((), M') → Ct G yX11_readSum cX11_readSum 3 none (14 + d) (445 + 60 * d) [.ref t, .int x1_] M none M') (ih_X11_readProduct : ∀ {t : Nat} {x1_ : Int32} {M M' : Mem}, WFG G → hs G t (0, 11) → cb_X11_readProduct t x1_ M = some ((), M') → Ct G yX11_readProduct cX11_readProduct 3 none (14 + d) (445 + 60 * d) [.ref t, .int x1_] M none M') (ih_X11_readPart : ∀ {t : Nat} {x1_ : Int32} {M M' : Mem}, WFG G → hs G t (0, 11) → cb_X11_readPart t x1_ M = some ((), M') → Ct G yX11_readPart cX11_readPart 3 none (14 + d) (445 + 60 * d) [.ref t, .int x1_] M none M') {t : Nat} {x1_ : Int32} {M M' : Mem} (h0 : hs G t (0, 11)) (hf : b_X11_readPart cb_X11_readExpression cb_X11_readAnd cb_X11_readNot cb_X11_readSum cb_X11_readProduct cb_X11_readPart t x1_ M = some ((), M')) : Ct G yX11_readPart cX11_readPart 3 none (14 + (d + 1)) (445 + 60 * (d + 1)) [.ref t, .int x1_] M none M' := by
  refine ct_v hW (by decide +kernel) (Nat.le_of_ble_eq_true rfl) (fun w h hr => ?_)
  have h : Rb G cX11_readPart RX11 3 (14 + (d + 1)) (445 + 60 * (d + 1)) w := h
  refine (?_ : E (fun q => q = ((), M')) (b_X11_readPart cb_X11_readExpression cb_X11_readAnd cb_X11_readNot cb_X11_readSum cb_X11_readProduct cb_X11_readPart t x1_ M) (w M 0 [(0, .ref t), (1, .int x1_)] [])) _ hf rfl
  unfold b_X11_readPart
  refine E.m (h.aload_n 0 dX11_readPart_0 rfl) ?_
  refine E.m (h.get h0 lf_RX11_168 dX11_readPart_1 fv_11_19) ?_
  refine E.br (fun k1 k2 => h.if_eq (tgt := 8) dX11_readPart_4 (by decide) k1 k2) ?_ ?_
  · refine E.m (h.aload_n 0 dX11_readPart_8 rfl) ?_
    refine E.m (h.get h0 lf_RX11_148 dX11_readPart_9 fv_11_15) ?_
    refine E.m (h.iconst (v := (2 : Int32)) dX11_readPart_12 (by decide)) ?_
    refine E.br (fun k1 k2 => h.icmp_ne (tgt := 29) dX11_readPart_13 (by decide) k2 k1) ?_ ?_
    · refine E.m (h.aload_n 0 dX11_readPart_16 rfl) ?_
      refine E.m (h.aload_n 0 dX11_readPart_17 rfl) ?_
      refine E.m (h.iconst (v := (0 : Int32)) dX11_readPart_18 (by decide)) ?_
      refine E.m (h.sipush (v := (9999 : Int32)) dX11_readPart_19 (by decide)) ?_
      refine E.bnd (fun u17 M18 => w M18 25 [(0, .ref t), (1, .int x1_)] [.int u17, .ref t]) (fun u17 M18 hf k => h.callV (As := [.int (0 : Int32), .int (9999 : Int32)]) (rest := [.ref t]) (c_X11_readNumber hW h0 hf) lm_X11_readNumber lv_m_X11_readNumber ll_RX11_200 h0 lc_11 rfl rfl (Nat.le_of_ble_eq_true rfl) ⟨by omega, by omega⟩ dX11_readPart_22 rfl k) (fun u17 M18 => ?_)
      refine E.bnd (fun _ M20 => w M20 28 [(0, .ref t), (1, .int x1_)] []) (fun _ M20 hf k => h.callV (As := [.int u17]) (rest := []) (c_X11_lay hW h0 hf) lm_X11_lay lv_m_X11_lay ll_RX11_203 h0 lc_11 rfl rfl (Nat.le_of_ble_eq_true rfl) ⟨by omega, by omega⟩ dX11_readPart_25 rfl k) (fun _ M20 => ?_)
      exact E.some (ret_v hr dX11_readPart_28)
    · refine E.m (h.aload_n 0 dX11_readPart_29 rfl) ?_
      refine E.m (h.get h0 lf_RX11_148 dX11_readPart_30 fv_11_15) ?_
      refine E.m (h.iconst (v := (1 : Int32)) dX11_readPart_33 (by decide)) ?_
      refine E.br (fun k1 k2 => h.icmp_ne (tgt := 75) dX11_readPart_34 (by decide) k2 k1) ?_ ?_
      · refine E.m (h.aload_n 0 dX11_readPart_37 rfl) ?_
        refine E.m (h.aload_n 0 dX11_readPart_38 rfl) ?_
        refine E.m (h.get h0 lf_RX11_19 dX11_readPart_39 fv_11_0) ?_
        refine E.bnd (fun u7 M8 => w M8 45 [(0, .ref t), (1, .int x1_)] [.int u7]) (fun u7 M8 hf k => h.callV (As := [.ref (t + 1)]) (rest := []) (c_X11_which hW h0 ⟨(hW.clo 40 h0 rfl), by decide⟩ hf) lm_X11_which lv_m_X11_which ll_RX11_206 h0 lc_11 rfl rfl (Nat.le_of_ble_eq_true rfl) ⟨by omega, by omega⟩ dX11_readPart_42 rfl k) (fun u7 M8 => ?_)
        refine E.m (h.istore_n dX11_readPart_45 (by decide) rfl) ?_
        refine E.m (h.iload_n 0 dX11_readPart_46 rfl) ?_
        refine E.m (h.iconst (v := (-1 : Int32)) dX11_readPart_47 (by decide)) ?_
        refine E.join1 (fun M9 => w M9 56 [(0, .ref t), (1, .int x1_), (2, .int u7)] []) (fun M9 => ?_) (fun J56 hJ56 => ?_)
        · refine E.m (h.aload_n 0 dX11_readPart_56 rfl) ?_
          refine E.m (h.iconst (v := (-1 : Int32)) dX11_readPart_57 (by decide)) ?_
          refine E.m (h.iload_n 2 dX11_readPart_58 rfl) ?_
          refine E.m (h.isub dX11_readPart_59) ?_
          refine E.bnd (fun _ M11 => w M11 63 [(0, .ref t), (1, .int x1_), (2, .int u7)] []) (fun _ M11 hf k => h.callV (As := [.int ((-1 : Int32) - u7)]) (rest := []) (c_X11_lay hW h0 hf) lm_X11_lay lv_m_X11_lay ll_RX11_203 h0 lc_11 rfl rfl (Nat.le_of_ble_eq_true rfl) ⟨by omega, by omega⟩ dX11_readPart_60 rfl k) (fun _ M11 => ?_)
          refine E.m (h.aload_n 0 dX11_readPart_63 rfl) ?_
          refine E.m (h.get h0 lf_RX11_168 dX11_readPart_64 fv_11_19) ?_
          refine E.join1 (fun M12 => w M12 74 [(0, .ref t), (1, .int x1_), (2, .int u7)] []) (fun M12 => ?_) (fun J74 hJ74 => ?_)
          · exact E.some (ret_v hr dX11_readPart_74)
          refine E.br (fun k1 k2 => h.if_ne (tgt := 74) dX11_readPart_67 (by decide) k2 k1) ?_ ?_
          · refine E.m (h.aload_n 0 dX11_readPart_70 rfl) ?_
            refine E.bnd (fun _ M14 => w M14 74 [(0, .ref t), (1, .int x1_), (2, .int u7)] []) (fun _ M14 hf k => h.callV (As := []) (rest := []) (c_X11_stepOn hW h0 hf) lm_X11_stepOn lv_m_X11_stepOn ll_RX11_193 h0 lc_11 rfl rfl (Nat.le_of_ble_eq_true rfl) ⟨by omega, by omega⟩ dX11_readPart_71 rfl k) (fun _ M14 => ?_)
            exact hJ74 _
          · exact hJ74 _
        refine E.br (fun k1 k2 => h.icmp_ne (tgt := 56) dX11_readPart_48 (by decide) k2 k1) ?_ ?_
        · refine E.m (h.aload_n 1 dX11_readPart_51 rfl) ?_
          refine E.m (h.iconst (v := (3 : Int32)) dX11_readPart_52 (by decide)) ?_
          refine E.bnd (fun _ M16 => w M16 56 [(2, .int u7), (0, .ref t), (1, .int x1_)] []) (fun _ M16 hf k => h.callV (As := [.int (3 : Int32)]) (rest := []) (c_X11_wrong hW h0 hf) lm_X11_wrong lv_m_X11_wrong ll_RX11_189 h0 lc_11 rfl rfl (Nat.le_of_ble_eq_true rfl) ⟨by omega, by omega⟩ dX11_readPart_53 rfl k) (fun _ M16 => ?_)
          refine E.m (h.sub [1, 2, 0] rfl) ?_
          exact hJ56 _
        · refine E.m (h.sub [1, 2, 0] rfl) ?_
          exact hJ56 _
      · refine E.m (h.aload_n 0 dX11_readPart_75 rfl) ?_
        refine E.m (h.bipush (v := (40 : Int32)) dX11_readPart_76 (by decide)) ?_
        refine E.bnd (fun _ M2 => w M2 81 [(0, .ref t), (1, .int x1_)] []) (fun _ M2 hf k => h.callV (As := [.int (40 : Int32)]) (rest := []) (c_X11_mark hW h0 hf) lm_X11_mark lv_m_X11_mark ll_RX11_210 h0 lc_11 rfl rfl (Nat.le_of_ble_eq_true rfl) ⟨by omega, by omega⟩ dX11_readPart_78 rfl k) (fun _ M2 => ?_)
        refine E.m (h.aload_n 0 dX11_readPart_81 rfl) ?_
        refine E.m (h.iload_n 1 dX11_readPart_82 rfl) ?_
        refine E.m (h.iconst (v := (1 : Int32)) dX11_readPart_83 (by decide)) ?_
        refine E.m (h.iadd dX11_readPart_84) ?_
        refine E.bnd (fun _ M4 => w M4 88 [(0, .ref t), (1, .int x1_)] []) (fun _ M4 hf k => h.callV (As := [.int (x1_ + (1 : Int32))]) (rest := []) (ih_X11_readExpression hW h0 hf) lm_X11_readExpression lv_m_X11_readExpression ll_RX11_213 h0 lc_11 rfl rfl (Nat.le_of_ble_eq_true rfl) ⟨by omega, by omega⟩ dX11_readPart_85 rfl k) (fun _ M4 => ?_)
        refine E.m (h.aload_n 0 dX11_readPart_88 rfl) ?_
        refine E.m (h.bipush (v := (41 : Int32)) dX11_readPart_89 (by decide)) ?_
        refine E.bnd (fun _ M6 => w M6 94 [(0, .ref t), (1, .int x1_)] []) (fun _ M6 hf k => h.callV (As := [.int (41 : Int32)]) (rest := []) (c_X11_mark hW h0 hf) lm_X11_mark lv_m_X11_mark ll_RX11_210 h0 lc_11 rfl rfl (Nat.le_of_ble_eq_true rfl) ⟨by omega, by omega⟩ dX11_readPart_91 rfl k) (fun _ M6 => ?_)
        exact E.some (ret_v hr dX11_readPart_94)
  · exact E.some (ret_v hr dX11_readPart_7)
def fam_X11_readExpression : Nat → (Nat → Int32 → Mem → Option (Unit × Mem)) × (Nat → Int32 → Mem → Option (Unit × Mem)) × (Nat → Int32 → Mem → Option (Unit × Mem)) × (Nat → Int32 → Mem → Option (Unit × Mem)) × (Nat → Int32 → Mem → Option (Unit × Mem)) × (Nat → Int32 → Mem → Option (Unit × Mem))
  | 0 => (fun _ _ _ => none, fun _ _ _ => none, fun _ _ _ => none, fun _ _ _ => none, fun _ _ _ => none, fun _ _ _ => none)
  | d + 1 => (b_X11_readExpression (fam_X11_readExpression d).1 (fam_X11_readExpression d).2.1 (fam_X11_readExpression d).2.2.1 (fam_X11_readExpression d).2.2.2.1 (fam_X11_readExpression d).2.2.2.2.1 (fam_X11_readExpression d).2.2.2.2.2, b_X11_readAnd (fam_X11_readExpression d).1 (fam_X11_readExpression d).2.1 (fam_X11_readExpression d).2.2.1 (fam_X11_readExpression d).2.2.2.1 (fam_X11_readExpression d).2.2.2.2.1 (fam_X11_readExpression d).2.2.2.2.2, b_X11_readNot (fam_X11_readExpression d).1 (fam_X11_readExpression d).2.1 (fam_X11_readExpression d).2.2.1 (fam_X11_readExpression d).2.2.2.1 (fam_X11_readExpression d).2.2.2.2.1 (fam_X11_readExpression d).2.2.2.2.2, b_X11_readSum (fam_X11_readExpression d).1 (fam_X11_readExpression d).2.1 (fam_X11_readExpression d).2.2.1 (fam_X11_readExpression d).2.2.2.1 (fam_X11_readExpression d).2.2.2.2.1 (fam_X11_readExpression d).2.2.2.2.2, b_X11_readProduct (fam_X11_readExpression d).1 (fam_X11_readExpression d).2.1 (fam_X11_readExpression d).2.2.1 (fam_X11_readExpression d).2.2.2.1 (fam_X11_readExpression d).2.2.2.2.1 (fam_X11_readExpression d).2.2.2.2.2, b_X11_readPart (fam_X11_readExpression d).1 (fam_X11_readExpression d).2.1 (fam_X11_readExpression d).2.2.1 (fam_X11_readExpression d).2.2.2.1 (fam_X11_readExpression d).2.2.2.2.1 (fam_X11_readExpression d).2.2.2.2.2)
def f_X11_readExpression (d : Nat) (t : Nat) (x1_ : Int32) (M : Mem) : Option (Unit × Mem) := (fam_X11_readExpression d).1 t x1_ M
def f_X11_readAnd (d : Nat) (t : Nat) (x1_ : Int32) (M : Mem) : Option (Unit × Mem) := (fam_X11_readExpression d).2.1 t x1_ M
def f_X11_readNot (d : Nat) (t : Nat) (x1_ : Int32) (M : Mem) : Option (Unit × Mem) := (fam_X11_readExpression d).2.2.1 t x1_ M
def f_X11_readSum (d : Nat) (t : Nat) (x1_ : Int32) (M : Mem) : Option (Unit × Mem) := (fam_X11_readExpression d).2.2.2.1 t x1_ M
def f_X11_readProduct (d : Nat) (t : Nat) (x1_ : Int32) (M : Mem) : Option (Unit × Mem) := (fam_X11_readExpression d).2.2.2.2.1 t x1_ M
def f_X11_readPart (d : Nat) (t : Nat) (x1_ : Int32) (M : Mem) : Option (Unit × Mem) := (fam_X11_readExpression d).2.2.2.2.2 t x1_ M
theorem fam_X11_readExpression_ok {G : Ctx} (hW : WFG G) : ∀ d, (∀ {t : Nat} {x1_ : Int32} {M M' : Mem}, hs G t (0, 11) → (fam_X11_readExpression d).1 t x1_ M = some ((), M') → Ct G yX11_readExpression cX11_readExpression 3 none (14 + d) (445 + 60 * d) [.ref t, .int x1_] M none M') ∧ (∀ {t : Nat} {x1_ : Int32} {M M' : Mem}, hs G t (0, 11) → (fam_X11_readExpression d).2.1 t x1_ M = some ((), M') → Ct G yX11_readAnd cX11_readAnd 2 none (14 + d) (445 + 60 * d) [.ref t, .int x1_] M none M') ∧ (∀ {t : Nat} {x1_ : Int32} {M M' : Mem}, hs G t (0, 11) → (fam_X11_readExpression d).2.2.1 t x1_ M = some ((), M') → Ct G yX11_readNot cX11_readNot 4 none (14 + d) (445 + 60 * d) [.ref t, .int x1_] M none M') ∧ (∀ {t : Nat} {x1_ : Int32} {M M' : Mem}, hs G t (0, 11) → (fam_X11_readExpression d).2.2.2.1 t x1_ M = some ((), M') → Ct G yX11_readSum cX11_readSum 3 none (14 + d) (445 + 60 * d) [.ref t, .int x1_] M none M') ∧ (∀ {t : Nat} {x1_ : Int32} {M M' : Mem}, hs G t (0, 11) → (fam_X11_readExpression d).2.2.2.2.1 t x1_ M = some ((), M') → Ct G yX11_readProduct cX11_readProduct 3 none (14 + d) (445 + 60 * d) [.ref t, .int x1_] M none M') ∧ (∀ {t : Nat} {x1_ : Int32} {M M' : Mem}, hs G t (0, 11) → (fam_X11_readExpression d).2.2.2.2.2 t x1_ M = some ((), M') → Ct G yX11_readPart cX11_readPart 3 none (14 + d) (445 + 60 * d) [.ref t, .int x1_] M none M') := by
  intro d
  induction d with
  | zero =>
    refine ⟨?_, ?_, ?_, ?_, ?_, ?_⟩ <;> (intros; rename_i hf; simp [fam_X11_readExpression] at hf)
  | succ d ih =>
    obtain ⟨i0, i1, i2, i3, i4, i5⟩ := ih
    refine ⟨fun h0_ hf => cb_X11_readExpression_ok hW (fun hW h0_ hf => i0 h0_ hf) (fun hW h0_ hf => i1 h0_ hf) (fun hW h0_ hf => i2 h0_ hf) (fun hW h0_ hf => i3 h0_ hf) (fun hW h0_ hf => i4 h0_ hf) (fun hW h0_ hf => i5 h0_ hf) h0_ hf, fun h0_ hf => cb_X11_readAnd_ok hW (fun hW h0_ hf => i0 h0_ hf) (fun hW h0_ hf => i1 h0_ hf) (fun hW h0_ hf => i2 h0_ hf) (fun hW h0_ hf => i3 h0_ hf) (fun hW h0_ hf => i4 h0_ hf) (fun hW h0_ hf => i5 h0_ hf) h0_ hf, fun h0_ hf => cb_X11_readNot_ok hW (fun hW h0_ hf => i0 h0_ hf) (fun hW h0_ hf => i1 h0_ hf) (fun hW h0_ hf => i2 h0_ hf) (fun hW h0_ hf => i3 h0_ hf) (fun hW h0_ hf => i4 h0_ hf) (fun hW h0_ hf => i5 h0_ hf) h0_ hf, fun h0_ hf => cb_X11_readSum_ok hW (fun hW h0_ hf => i0 h0_ hf) (fun hW h0_ hf => i1 h0_ hf) (fun hW h0_ hf => i2 h0_ hf) (fun hW h0_ hf => i3 h0_ hf) (fun hW h0_ hf => i4 h0_ hf) (fun hW h0_ hf => i5 h0_ hf) h0_ hf, fun h0_ hf => cb_X11_readProduct_ok hW (fun hW h0_ hf => i0 h0_ hf) (fun hW h0_ hf => i1 h0_ hf) (fun hW h0_ hf => i2 h0_ hf) (fun hW h0_ hf => i3 h0_ hf) (fun hW h0_ hf => i4 h0_ hf) (fun hW h0_ hf => i5 h0_ hf) h0_ hf, fun h0_ hf => cb_X11_readPart_ok hW (fun hW h0_ hf => i0 h0_ hf) (fun hW h0_ hf => i1 h0_ hf) (fun hW h0_ hf => i2 h0_ hf) (fun hW h0_ hf => i3 h0_ hf) (fun hW h0_ hf => i4 h0_ hf) (fun hW h0_ hf => i5 h0_ hf) h0_ hf⟩
theorem c_X11_readExpression {G : Ctx} {d : Nat} (hW : WFG G) {t : Nat} {x1_ : Int32} {M M' : Mem} (h0 : hs G t (0, 11)) (hf : f_X11_readExpression d t x1_ M = some ((), M')) : Ct G yX11_readExpression cX11_readExpression 3 none (14 + d) (445 + 60 * d) [.ref t, .int x1_] M none M' := (fam_X11_readExpression_ok hW d).1 h0 hf
theorem c_X11_readAnd {G : Ctx} {d : Nat} (hW : WFG G) {t : Nat} {x1_ : Int32} {M M' : Mem} (h0 : hs G t (0, 11)) (hf : f_X11_readAnd d t x1_ M = some ((), M')) : Ct G yX11_readAnd cX11_readAnd 2 none (14 + d) (445 + 60 * d) [.ref t, .int x1_] M none M' := (fam_X11_readExpression_ok hW d).2.1 h0 hf
theorem c_X11_readNot {G : Ctx} {d : Nat} (hW : WFG G) {t : Nat} {x1_ : Int32} {M M' : Mem} (h0 : hs G t (0, 11)) (hf : f_X11_readNot d t x1_ M = some ((), M')) : Ct G yX11_readNot cX11_readNot 4 none (14 + d) (445 + 60 * d) [.ref t, .int x1_] M none M' := (fam_X11_readExpression_ok hW d).2.2.1 h0 hf
theorem c_X11_readSum {G : Ctx} {d : Nat} (hW : WFG G) {t : Nat} {x1_ : Int32} {M M' : Mem} (h0 : hs G t (0, 11)) (hf : f_X11_readSum d t x1_ M = some ((), M')) : Ct G yX11_readSum cX11_readSum 3 none (14 + d) (445 + 60 * d) [.ref t, .int x1_] M none M' := (fam_X11_readExpression_ok hW d).2.2.2.1 h0 hf
theorem c_X11_readProduct {G : Ctx} {d : Nat} (hW : WFG G) {t : Nat} {x1_ : Int32} {M M' : Mem} (h0 : hs G t (0, 11)) (hf : f_X11_readProduct d t x1_ M = some ((), M')) : Ct G yX11_readProduct cX11_readProduct 3 none (14 + d) (445 + 60 * d) [.ref t, .int x1_] M none M' := (fam_X11_readExpression_ok hW d).2.2.2.2.1 h0 hf
theorem c_X11_readPart {G : Ctx} {d : Nat} (hW : WFG G) {t : Nat} {x1_ : Int32} {M M' : Mem} (h0 : hs G t (0, 11)) (hf : f_X11_readPart d t x1_ M = some ((), M')) : Ct G yX11_readPart cX11_readPart 3 none (14 + d) (445 + 60 * d) [.ref t, .int x1_] M none M' := (fam_X11_readExpression_ok hW d).2.2.2.2.2 h0 hf
def l_X11_readWord_8 (t : Nat) (M2 : Mem) : Option ((Mem) ⊕ (Unit × Mem)) :=
  jn1 (fun M3 => bd (f_X11_readNumber t (0 : Int32) (255 : Int32) M3) (fun u4 M5 => jn1 (fun M6 => jn0 (fun _ => some (.inr ((), M6))) (fun J98 => if (M6.1 t 19) = 0 then (if (M6.1 t 15) = (2 : Int32) then (some (.inl M6)) else (J98 ())) else (J98 ()))) (fun J83 => if (M5.1 t 19) = 0 then (gdi ((16 : Int32) + (M5.1 (t + 3) 17)) 32 (nm (wi M5 (t + 4) ((16 : Int32) + (M5.1 (t + 3) 17)).toNatClampNeg u4) (fun M7 => nm (wi M7 (t + 3) 17 ((M7.1 (t + 3) 17) + (1 : Int32))) (fun M8 => J83 M8)))) else (J83 M5)))) (fun J40 => if (M2.1 t 19) = 0 then (if (M2.1 t 15) = (2 : Int32) then (if (M2.1 (t + 3) 17) = (16 : Int32) then (bd (f_X11_wrong t (2 : Int32) M2) (fun _ M10 => J40 M10)) else (J40 M2)) else (J40 M2)) else (J40 M2))
def f_X11_readWord (t : Nat) (M : Mem) : Option (Unit × Mem) :=
  nm (wi M (t + 3) 17 (0 : Int32)) (fun M1 => lop1 FU (l_X11_readWord_8 t) M1)
set_option maxRecDepth 20000 in
theorem c_X11_readWord {G : Ctx} (hW : WFG G) {t : Nat} {M M' : Mem} (h0 : hs G t (0, 11)) (hf : f_X11_readWord t M = some ((), M')) : Ct G yX11_readWord cX11_readWord 2 none 3 65 [.ref t] M none M' := by
  refine ct_v hW (by decide +kernel) (Nat.le_of_ble_eq_true rfl) (fun w h hr => ?_)
  have h : Rb G cX11_readWord RX11 2 3 65 w := h
  refine (?_ : E (fun q => q = ((), M')) (f_X11_readWord t M) (w M 0 [(0, .ref t)] [])) _ hf rfl
  unfold f_X11_readWord
  refine E.m (h.aload_n 0 dX11_readWord_0 rfl) ?_
  refine E.m (h.get h0 lf_RX11_44 dX11_readWord_1 fv_11_3) ?_
  refine E.m (h.bipush (v := (17 : Int32)) dX11_readWord_4 (by decide)) ?_
  refine E.m (h.iconst (v := (0 : Int32)) dX11_readWord_6 (by decide)) ?_
  refine E.m (h.iastk (k := 17) (hW.clo 42 h0 rfl) (by decide) rfl dX11_readWord_7) ?_
  refine E.nmM (fun M1 => ?_)
  refine E.loop1 (fun M2 => w M2 8 [(0, .ref t)] []) (fun M2 => ?_) _ _
  unfold l_X11_readWord_8
  refine E.m (h.aload_n 0 dX11_readWord_8 rfl) ?_
  refine E.m (h.get h0 lf_RX11_168 dX11_readWord_9 fv_11_19) ?_
  refine E.join1 (fun M3 => w M3 40 [(0, .ref t)] []) (fun M3 => ?_) (fun J40 hJ40 => ?_)
  · refine E.m (h.aload_n 0 dX11_readWord_40 rfl) ?_
    refine E.m (h.iconst (v := (0 : Int32)) dX11_readWord_41 (by decide)) ?_
    refine E.m (h.sipush (v := (255 : Int32)) dX11_readWord_42 (by decide)) ?_
    refine E.bnd (fun u4 M5 => w M5 48 [(0, .ref t)] [.int u4]) (fun u4 M5 hf k => h.callV (As := [.int (0 : Int32), .int (255 : Int32)]) (rest := []) (c_X11_readNumber hW h0 hf) lm_X11_readNumber lv_m_X11_readNumber ll_RX11_200 h0 lc_11 rfl rfl (Nat.le_of_ble_eq_true rfl) (by decide) dX11_readWord_45 rfl k) (fun u4 M5 => ?_)
    refine E.m (h.istore_n dX11_readWord_48 (by decide) rfl) ?_
    refine E.m (h.aload_n 1 dX11_readWord_49 rfl) ?_
    refine E.m (h.get h0 lf_RX11_168 dX11_readWord_50 fv_11_19) ?_
    refine E.join1 (fun M6 => w M6 83 [(0, .ref t), (1, .int u4)] []) (fun M6 => ?_) (fun J83 hJ83 => ?_)
    · refine E.m (h.aload_n 0 dX11_readWord_83 rfl) ?_
      refine E.m (h.get h0 lf_RX11_168 dX11_readWord_84 fv_11_19) ?_
      refine E.join0 (fun _ => w M6 98 [(0, .ref t), (1, .int u4)] []) (fun _ => ?_) (fun J98 hJ98 => ?_)
      · exact E.some (ret_v hr dX11_readWord_98)
      refine E.br (fun k1 k2 => h.if_ne (tgt := 98) dX11_readWord_87 (by decide) k2 k1) ?_ ?_
      · refine E.m (h.aload_n 0 dX11_readWord_90 rfl) ?_
        refine E.m (h.get h0 lf_RX11_148 dX11_readWord_91 fv_11_15) ?_
        refine E.m (h.iconst (v := (2 : Int32)) dX11_readWord_94 (by decide)) ?_
        refine E.br (fun k1 k2 => h.icmp_eq (tgt := 8) dX11_readWord_95 (by decide) k1 k2) ?_ ?_
        · refine E.m (h.sub [0] rfl) ?_
          exact E.some (fun q => q)
        · exact hJ98 ()
      · exact hJ98 ()
    refine E.br (fun k1 k2 => h.if_ne (tgt := 83) dX11_readWord_53 (by decide) k2 k1) ?_ ?_
    · refine E.m (h.aload_n 1 dX11_readWord_56 rfl) ?_
      refine E.m (h.get h0 lf_RX11_48 dX11_readWord_57 fv_11_4) ?_
      refine E.m (h.bipush (v := (16 : Int32)) dX11_readWord_60 (by decide)) ?_
      refine E.m (h.aload_n 1 dX11_readWord_62 rfl) ?_
      refine E.m (h.get h0 lf_RX11_44 dX11_readWord_63 fv_11_3) ?_
      refine E.m (h.bipush (v := (17 : Int32)) dX11_readWord_66 (by decide)) ?_
      refine E.m (h.ialdk (k := 17) (hW.clo 42 h0 rfl) (by decide) rfl dX11_readWord_68) ?_
      refine E.m (h.iadd dX11_readWord_69) ?_
      refine E.m (h.iload_n 0 dX11_readWord_70 rfl) ?_
      refine E.gi (fun hi k => h.iast (hW.clo 43 h0 rfl) hi dX11_readWord_71 k) ?_
      refine E.nmM (fun M7 => ?_)
      refine E.m (h.aload_n 1 dX11_readWord_72 rfl) ?_
      refine E.m (h.get h0 lf_RX11_44 dX11_readWord_73 fv_11_3) ?_
      refine E.m (h.bipush (v := (17 : Int32)) dX11_readWord_76 (by decide)) ?_
      refine E.m (h.dup2 dX11_readWord_78 rfl rfl) ?_
      refine E.m (h.ialdk (k := 17) (hW.clo 42 h0 rfl) (by decide) rfl dX11_readWord_79) ?_
      refine E.m (h.iconst (v := (1 : Int32)) dX11_readWord_80 (by decide)) ?_
      refine E.m (h.iadd dX11_readWord_81) ?_
      refine E.m (h.iastk (k := 17) (hW.clo 42 h0 rfl) (by decide) rfl dX11_readWord_82) ?_
      refine E.nmM (fun M8 => ?_)
      refine E.m (h.sub [1, 0] rfl) ?_
      exact hJ83 _
    · refine E.m (h.sub [1, 0] rfl) ?_
      exact hJ83 _
  refine E.br (fun k1 k2 => h.if_ne (tgt := 40) dX11_readWord_12 (by decide) k2 k1) ?_ ?_
  · refine E.m (h.aload_n 0 dX11_readWord_15 rfl) ?_
    refine E.m (h.get h0 lf_RX11_148 dX11_readWord_16 fv_11_15) ?_
    refine E.m (h.iconst (v := (2 : Int32)) dX11_readWord_19 (by decide)) ?_
    refine E.br (fun k1 k2 => h.icmp_ne (tgt := 40) dX11_readWord_20 (by decide) k2 k1) ?_ ?_
    · refine E.m (h.aload_n 0 dX11_readWord_23 rfl) ?_
      refine E.m (h.get h0 lf_RX11_44 dX11_readWord_24 fv_11_3) ?_
      refine E.m (h.bipush (v := (17 : Int32)) dX11_readWord_27 (by decide)) ?_
      refine E.m (h.ialdk (k := 17) (hW.clo 42 h0 rfl) (by decide) rfl dX11_readWord_29) ?_
      refine E.m (h.bipush (v := (16 : Int32)) dX11_readWord_30 (by decide)) ?_
      refine E.br (fun k1 k2 => h.icmp_ne (tgt := 40) dX11_readWord_32 (by decide) k2 k1) ?_ ?_
      · refine E.m (h.aload_n 0 dX11_readWord_35 rfl) ?_
        refine E.m (h.iconst (v := (2 : Int32)) dX11_readWord_36 (by decide)) ?_
        refine E.bnd (fun _ M10 => w M10 40 [(0, .ref t)] []) (fun _ M10 hf k => h.callV (As := [.int (2 : Int32)]) (rest := []) (c_X11_wrong hW h0 hf) lm_X11_wrong lv_m_X11_wrong ll_RX11_189 h0 lc_11 rfl rfl (Nat.le_of_ble_eq_true rfl) (by decide) dX11_readWord_37 rfl k) (fun _ M10 => ?_)
        exact hJ40 _
      · exact hJ40 _
    · exact hJ40 _
  · exact hJ40 _
def f_X11_readClause (t : Nat) (x1_ : Int32) (M : Mem) : Option (Unit × Mem) :=
  jn1 (fun M1 => jn1 (fun M2 => jn1 (fun M3 => jn1 (fun M4 => jn1 (fun M5 => jn1 (fun M6 => jn1 (fun M7 => if (7 : Int32) ≤ x1_ then (jn1 (fun z8 => gdp (z8 = 0 ∨ z8 = 1) (nm (wi M7 t 10 z8) (fun M9 => bd (f_X11_readExpression 80 t (0 : Int32) M9) (fun _ M11 => some ((), M11))))) (fun J182 => if x1_ = (8 : Int32) then (J182 (1 : Int32)) else (J182 (0 : Int32)))) else (some ((), M7))) (fun J163 => if x1_ = (6 : Int32) then (bd (f_X11_readWord t M6) (fun _ M13 => J163 M13)) else (J163 M6))) (fun J153 => if x1_ = (5 : Int32) then (bd (f_X11_readNumber t (1 : Int32) (8 : Int32) M5) (fun u14 M15 => nm (wi M15 (t + 3) 16 u14) (fun M16 => J153 M16))) else (J153 M5))) (fun J134 => if x1_ = (4 : Int32) then (bd (f_X11_isMarked t (45 : Int32) M4) (fun u17 M18 => jn1 (fun M19 => bd (f_X11_readNumber t (0 : Int32) (99 : Int32) M19) (fun u20 M21 => jn1 (fun z22 => nm (wi M21 (t + 3) 15 z22) (fun M23 => J134 M23)) (fun J133 => if u17 = 0 then (J133 u20) else (J133 (-u20))))) (fun J109 => if u17 = 0 then (J109 M18) else (bd (f_X11_stepOn t M18) (fun _ M25 => J109 M25))))) else (J134 M4))) (fun J89 => if x1_ = (3 : Int32) then (bd (f_X11_readNumber t (1 : Int32) (16 : Int32) M3) (fun u26 M27 => nm (wi M27 (t + 3) 14 u26) (fun M28 => J89 M28))) else (J89 M3))) (fun J70 => if x1_ = (2 : Int32) then (bd (f_X11_readNumber t (0 : Int32) (9 : Int32) M2) (fun u29 M30 => nm (wi M30 (t + 3) 12 u29) (fun M31 => bd (f_X11_readNumber t (0 : Int32) (9 : Int32) M31) (fun u32 M33 => nm (wi M33 (t + 3) 13 u32) (fun M34 => J70 M34))))) else (J70 M2))) (fun J37 => if x1_ = (1 : Int32) then (bd (f_X11_readNumber t (1 : Int32) (64 : Int32) M1) (fun u35 M36 => nm (wi M36 (t + 3) 11 u35) (fun M37 => J37 M37))) else (J37 M1))) (fun J18 => if x1_ = 0 then (bd (f_X11_readNumber t (1 : Int32) (8 : Int32) M) (fun u38 M39 => nm (wi M39 (t + 3) 10 u38) (fun M40 => J18 M40))) else (J18 M))
set_option maxRecDepth 20000 in
theorem c_X11_readClause {G : Ctx} (hW : WFG G) {t : Nat} {x1_ : Int32} {M M' : Mem} (h0 : hs G t (0, 11)) (hf : f_X11_readClause t x1_ M = some ((), M')) : Ct G yX11_readClause cX11_readClause 4 none 95 5267 [.ref t, .int x1_] M none M' := by
  refine ct_v hW (by decide +kernel) (Nat.le_of_ble_eq_true rfl) (fun w h hr => ?_)
  have h : Rb G cX11_readClause RX11 4 95 5267 w := h
  refine (?_ : E (fun q => q = ((), M')) (f_X11_readClause t x1_ M) (w M 0 [(0, .ref t), (1, .int x1_)] [])) _ hf rfl
  unfold f_X11_readClause
  refine E.m (h.iload_n 1 dX11_readClause_0 rfl) ?_
  refine E.join1 (fun M1 => w M1 18 [(0, .ref t), (1, .int x1_)] []) (fun M1 => ?_) (fun J18 hJ18 => ?_)
  · refine E.m (h.iload_n 1 dX11_readClause_18 rfl) ?_
    refine E.m (h.iconst (v := (1 : Int32)) dX11_readClause_19 (by decide)) ?_
    refine E.join1 (fun M2 => w M2 37 [(0, .ref t), (1, .int x1_)] []) (fun M2 => ?_) (fun J37 hJ37 => ?_)
    · refine E.m (h.iload_n 1 dX11_readClause_37 rfl) ?_
      refine E.m (h.iconst (v := (2 : Int32)) dX11_readClause_38 (by decide)) ?_
      refine E.join1 (fun M3 => w M3 70 [(0, .ref t), (1, .int x1_)] []) (fun M3 => ?_) (fun J70 hJ70 => ?_)
      · refine E.m (h.iload_n 1 dX11_readClause_70 rfl) ?_
        refine E.m (h.iconst (v := (3 : Int32)) dX11_readClause_71 (by decide)) ?_
        refine E.join1 (fun M4 => w M4 89 [(0, .ref t), (1, .int x1_)] []) (fun M4 => ?_) (fun J89 hJ89 => ?_)
        · refine E.m (h.iload_n 1 dX11_readClause_89 rfl) ?_
          refine E.m (h.iconst (v := (4 : Int32)) dX11_readClause_90 (by decide)) ?_
          refine E.join1 (fun M5 => w M5 134 [(0, .ref t), (1, .int x1_)] []) (fun M5 => ?_) (fun J134 hJ134 => ?_)
          · refine E.m (h.iload_n 1 dX11_readClause_134 rfl) ?_
            refine E.m (h.iconst (v := (5 : Int32)) dX11_readClause_135 (by decide)) ?_
            refine E.join1 (fun M6 => w M6 153 [(0, .ref t), (1, .int x1_)] []) (fun M6 => ?_) (fun J153 hJ153 => ?_)
            · refine E.m (h.iload_n 1 dX11_readClause_153 rfl) ?_
              refine E.m (h.bipush (v := (6 : Int32)) dX11_readClause_154 (by decide)) ?_
              refine E.join1 (fun M7 => w M7 163 [(0, .ref t), (1, .int x1_)] []) (fun M7 => ?_) (fun J163 hJ163 => ?_)
              · refine E.m (h.iload_n 1 dX11_readClause_163 rfl) ?_
                refine E.m (h.bipush (v := (7 : Int32)) dX11_readClause_164 (by decide)) ?_
                refine E.br (fun k1 k2 => h.icmp_ge (tgt := 170) dX11_readClause_166 (by decide) k1 k2) ?_ ?_
                · refine E.m (h.aload_n 0 dX11_readClause_170 rfl) ?_
                  refine E.m (h.iload_n 1 dX11_readClause_171 rfl) ?_
                  refine E.m (h.bipush (v := (8 : Int32)) dX11_readClause_172 (by decide)) ?_
                  refine E.join1 (fun z8 => w M7 182 [(0, .ref t), (1, .int x1_)] [.int z8, .ref t]) (fun z8 => ?_) (fun J182 hJ182 => ?_)
                  · refine E.gd (fun hc k => h.putz h0 lp_RX11_196 rfl dX11_readClause_182 hc k) (fun _ => ?_)
                    refine E.nmM (fun M9 => ?_)
                    refine E.m (h.aload_n 0 dX11_readClause_185 rfl) ?_
                    refine E.m (h.iconst (v := (0 : Int32)) dX11_readClause_186 (by decide)) ?_
                    refine E.bnd (fun _ M11 => w M11 190 [(0, .ref t), (1, .int x1_)] []) (fun _ M11 hf k => h.callV (As := [.int (0 : Int32)]) (rest := []) (c_X11_readExpression (d := 80) hW h0 hf) lm_X11_readExpression lv_m_X11_readExpression ll_RX11_213 h0 lc_11 rfl rfl (Nat.le_of_ble_eq_true rfl) (by decide) dX11_readClause_187 rfl k) (fun _ M11 => ?_)
                    exact E.some (ret_v hr dX11_readClause_190)
                  refine E.br (fun k1 k2 => h.icmp_ne (tgt := 181) dX11_readClause_174 (by decide) k2 k1) ?_ ?_
                  · refine E.m (h.iconst (v := (1 : Int32)) dX11_readClause_177 (by decide)) ?_
                    refine E.m (h.goto (tgt := 182) dX11_readClause_178 (by decide)) ?_
                    exact hJ182 _
                  · refine E.m (h.iconst (v := (0 : Int32)) dX11_readClause_181 (by decide)) ?_
                    exact hJ182 _
                · exact E.some (ret_v hr dX11_readClause_169)
              refine E.br (fun k1 k2 => h.icmp_ne (tgt := 163) dX11_readClause_156 (by decide) k2 k1) ?_ ?_
              · refine E.m (h.aload_n 0 dX11_readClause_159 rfl) ?_
                refine E.bnd (fun _ M13 => w M13 163 [(0, .ref t), (1, .int x1_)] []) (fun _ M13 hf k => h.callV (As := []) (rest := []) (c_X11_readWord hW h0 hf) lm_X11_readWord lv_m_X11_readWord ll_RX11_237 h0 lc_11 rfl rfl (Nat.le_of_ble_eq_true rfl) (by decide) dX11_readClause_160 rfl k) (fun _ M13 => ?_)
                exact hJ163 _
              · exact hJ163 _
            refine E.br (fun k1 k2 => h.icmp_ne (tgt := 153) dX11_readClause_136 (by decide) k2 k1) ?_ ?_
            · refine E.m (h.aload_n 0 dX11_readClause_139 rfl) ?_
              refine E.m (h.get h0 lf_RX11_44 dX11_readClause_140 fv_11_3) ?_
              refine E.m (h.bipush (v := (16 : Int32)) dX11_readClause_143 (by decide)) ?_
              refine E.m (h.aload_n 0 dX11_readClause_145 rfl) ?_
              refine E.m (h.iconst (v := (1 : Int32)) dX11_readClause_146 (by decide)) ?_
              refine E.m (h.bipush (v := (8 : Int32)) dX11_readClause_147 (by decide)) ?_
              refine E.bnd (fun u14 M15 => w M15 152 [(0, .ref t), (1, .int x1_)] [.int u14, .int (16 : Int32), .ref (t + 3)]) (fun u14 M15 hf k => h.callV (As := [.int (1 : Int32), .int (8 : Int32)]) (rest := [.int (16 : Int32), .ref (t + 3)]) (c_X11_readNumber hW h0 hf) lm_X11_readNumber lv_m_X11_readNumber ll_RX11_200 h0 lc_11 rfl rfl (Nat.le_of_ble_eq_true rfl) (by decide) dX11_readClause_149 rfl k) (fun u14 M15 => ?_)
              refine E.m (h.iastk (k := 16) (hW.clo 42 h0 rfl) (by decide) rfl dX11_readClause_152) ?_
              refine E.nmM (fun M16 => ?_)
              exact hJ153 _
            · exact hJ153 _
          refine E.br (fun k1 k2 => h.icmp_ne (tgt := 134) dX11_readClause_91 (by decide) k2 k1) ?_ ?_
          · refine E.m (h.aload_n 0 dX11_readClause_94 rfl) ?_
            refine E.m (h.bipush (v := (45 : Int32)) dX11_readClause_95 (by decide)) ?_
            refine E.bnd (fun u17 M18 => w M18 100 [(0, .ref t), (1, .int x1_)] [.int u17]) (fun u17 M18 hf k => h.callV (As := [.int (45 : Int32)]) (rest := []) (c_X11_isMarked hW h0 hf) lm_X11_isMarked lv_m_X11_isMarked ll_RX11_186 h0 lc_11 rfl rfl (Nat.le_of_ble_eq_true rfl) (by decide) dX11_readClause_97 rfl k) (fun u17 M18 => ?_)
            refine E.m (h.istore_n dX11_readClause_100 (by decide) rfl) ?_
            refine E.m (h.iload_n 0 dX11_readClause_101 rfl) ?_
            refine E.join1 (fun M19 => w M19 109 [(0, .ref t), (1, .int x1_), (2, .int u17)] []) (fun M19 => ?_) (fun J109 hJ109 => ?_)
            · refine E.m (h.aload_n 0 dX11_readClause_109 rfl) ?_
              refine E.m (h.iconst (v := (0 : Int32)) dX11_readClause_110 (by decide)) ?_
              refine E.m (h.bipush (v := (99 : Int32)) dX11_readClause_111 (by decide)) ?_
              refine E.bnd (fun u20 M21 => w M21 116 [(0, .ref t), (1, .int x1_), (2, .int u17)] [.int u20]) (fun u20 M21 hf k => h.callV (As := [.int (0 : Int32), .int (99 : Int32)]) (rest := []) (c_X11_readNumber hW h0 hf) lm_X11_readNumber lv_m_X11_readNumber ll_RX11_200 h0 lc_11 rfl rfl (Nat.le_of_ble_eq_true rfl) (by decide) dX11_readClause_113 rfl k) (fun u20 M21 => ?_)
              refine E.m (h.istore_n dX11_readClause_116 (by decide) rfl) ?_
              refine E.m (h.aload_n 1 dX11_readClause_117 rfl) ?_
              refine E.m (h.get h0 lf_RX11_44 dX11_readClause_118 fv_11_3) ?_
              refine E.m (h.bipush (v := (15 : Int32)) dX11_readClause_121 (by decide)) ?_
              refine E.m (h.iload_n 3 dX11_readClause_123 rfl) ?_
              refine E.join1 (fun z22 => w M21 133 [(0, .ref t), (1, .int x1_), (2, .int u17), (3, .int u20)] [.int z22, .int (15 : Int32), .ref (t + 3)]) (fun z22 => ?_) (fun J133 hJ133 => ?_)
              · refine E.m (h.iastk (k := 15) (hW.clo 42 h0 rfl) (by decide) rfl dX11_readClause_133) ?_
                refine E.nmM (fun M23 => ?_)
                refine E.m (h.sub [0, 1] rfl) ?_
                exact hJ134 _
              refine E.br (fun k1 k2 => h.if_eq (tgt := 132) dX11_readClause_124 (by decide) k1 k2) ?_ ?_
              · refine E.m (h.iload_n 0 dX11_readClause_132 rfl) ?_
                refine E.m (h.sub [1, 2, 3, 0] rfl) ?_
                exact hJ133 _
              · refine E.m (h.iload_n 0 dX11_readClause_127 rfl) ?_
                refine E.m (h.ineg dX11_readClause_128) ?_
                refine E.m (h.goto (tgt := 133) dX11_readClause_129 (by decide)) ?_
                refine E.m (h.sub [1, 2, 3, 0] rfl) ?_
                exact hJ133 _
            refine E.br (fun k1 k2 => h.if_eq (tgt := 109) dX11_readClause_102 (by decide) k1 k2) ?_ ?_
            · refine E.m (h.sub [1, 2, 0] rfl) ?_
              exact hJ109 _
            · refine E.m (h.aload_n 1 dX11_readClause_105 rfl) ?_
              refine E.bnd (fun _ M25 => w M25 109 [(2, .int u17), (0, .ref t), (1, .int x1_)] []) (fun _ M25 hf k => h.callV (As := []) (rest := []) (c_X11_stepOn hW h0 hf) lm_X11_stepOn lv_m_X11_stepOn ll_RX11_193 h0 lc_11 rfl rfl (Nat.le_of_ble_eq_true rfl) (by decide) dX11_readClause_106 rfl k) (fun _ M25 => ?_)
              refine E.m (h.sub [1, 2, 0] rfl) ?_
              exact hJ109 _
          · exact hJ134 _
        refine E.br (fun k1 k2 => h.icmp_ne (tgt := 89) dX11_readClause_72 (by decide) k2 k1) ?_ ?_
        · refine E.m (h.aload_n 0 dX11_readClause_75 rfl) ?_
          refine E.m (h.get h0 lf_RX11_44 dX11_readClause_76 fv_11_3) ?_
          refine E.m (h.bipush (v := (14 : Int32)) dX11_readClause_79 (by decide)) ?_
          refine E.m (h.aload_n 0 dX11_readClause_81 rfl) ?_
          refine E.m (h.iconst (v := (1 : Int32)) dX11_readClause_82 (by decide)) ?_
          refine E.m (h.bipush (v := (16 : Int32)) dX11_readClause_83 (by decide)) ?_
          refine E.bnd (fun u26 M27 => w M27 88 [(0, .ref t), (1, .int x1_)] [.int u26, .int (14 : Int32), .ref (t + 3)]) (fun u26 M27 hf k => h.callV (As := [.int (1 : Int32), .int (16 : Int32)]) (rest := [.int (14 : Int32), .ref (t + 3)]) (c_X11_readNumber hW h0 hf) lm_X11_readNumber lv_m_X11_readNumber ll_RX11_200 h0 lc_11 rfl rfl (Nat.le_of_ble_eq_true rfl) (by decide) dX11_readClause_85 rfl k) (fun u26 M27 => ?_)
          refine E.m (h.iastk (k := 14) (hW.clo 42 h0 rfl) (by decide) rfl dX11_readClause_88) ?_
          refine E.nmM (fun M28 => ?_)
          exact hJ89 _
        · exact hJ89 _
      refine E.br (fun k1 k2 => h.icmp_ne (tgt := 70) dX11_readClause_39 (by decide) k2 k1) ?_ ?_
      · refine E.m (h.aload_n 0 dX11_readClause_42 rfl) ?_
        refine E.m (h.get h0 lf_RX11_44 dX11_readClause_43 fv_11_3) ?_
        refine E.m (h.bipush (v := (12 : Int32)) dX11_readClause_46 (by decide)) ?_
        refine E.m (h.aload_n 0 dX11_readClause_48 rfl) ?_
        refine E.m (h.iconst (v := (0 : Int32)) dX11_readClause_49 (by decide)) ?_
        refine E.m (h.bipush (v := (9 : Int32)) dX11_readClause_50 (by decide)) ?_
        refine E.bnd (fun u29 M30 => w M30 55 [(0, .ref t), (1, .int x1_)] [.int u29, .int (12 : Int32), .ref (t + 3)]) (fun u29 M30 hf k => h.callV (As := [.int (0 : Int32), .int (9 : Int32)]) (rest := [.int (12 : Int32), .ref (t + 3)]) (c_X11_readNumber hW h0 hf) lm_X11_readNumber lv_m_X11_readNumber ll_RX11_200 h0 lc_11 rfl rfl (Nat.le_of_ble_eq_true rfl) (by decide) dX11_readClause_52 rfl k) (fun u29 M30 => ?_)
        refine E.m (h.iastk (k := 12) (hW.clo 42 h0 rfl) (by decide) rfl dX11_readClause_55) ?_
        refine E.nmM (fun M31 => ?_)
        refine E.m (h.aload_n 0 dX11_readClause_56 rfl) ?_
        refine E.m (h.get h0 lf_RX11_44 dX11_readClause_57 fv_11_3) ?_
        refine E.m (h.bipush (v := (13 : Int32)) dX11_readClause_60 (by decide)) ?_
        refine E.m (h.aload_n 0 dX11_readClause_62 rfl) ?_
        refine E.m (h.iconst (v := (0 : Int32)) dX11_readClause_63 (by decide)) ?_
        refine E.m (h.bipush (v := (9 : Int32)) dX11_readClause_64 (by decide)) ?_
        refine E.bnd (fun u32 M33 => w M33 69 [(0, .ref t), (1, .int x1_)] [.int u32, .int (13 : Int32), .ref (t + 3)]) (fun u32 M33 hf k => h.callV (As := [.int (0 : Int32), .int (9 : Int32)]) (rest := [.int (13 : Int32), .ref (t + 3)]) (c_X11_readNumber hW h0 hf) lm_X11_readNumber lv_m_X11_readNumber ll_RX11_200 h0 lc_11 rfl rfl (Nat.le_of_ble_eq_true rfl) (by decide) dX11_readClause_66 rfl k) (fun u32 M33 => ?_)
        refine E.m (h.iastk (k := 13) (hW.clo 42 h0 rfl) (by decide) rfl dX11_readClause_69) ?_
        refine E.nmM (fun M34 => ?_)
        exact hJ70 _
      · exact hJ70 _
    refine E.br (fun k1 k2 => h.icmp_ne (tgt := 37) dX11_readClause_20 (by decide) k2 k1) ?_ ?_
    · refine E.m (h.aload_n 0 dX11_readClause_23 rfl) ?_
      refine E.m (h.get h0 lf_RX11_44 dX11_readClause_24 fv_11_3) ?_
      refine E.m (h.bipush (v := (11 : Int32)) dX11_readClause_27 (by decide)) ?_
      refine E.m (h.aload_n 0 dX11_readClause_29 rfl) ?_
      refine E.m (h.iconst (v := (1 : Int32)) dX11_readClause_30 (by decide)) ?_
      refine E.m (h.bipush (v := (64 : Int32)) dX11_readClause_31 (by decide)) ?_
      refine E.bnd (fun u35 M36 => w M36 36 [(0, .ref t), (1, .int x1_)] [.int u35, .int (11 : Int32), .ref (t + 3)]) (fun u35 M36 hf k => h.callV (As := [.int (1 : Int32), .int (64 : Int32)]) (rest := [.int (11 : Int32), .ref (t + 3)]) (c_X11_readNumber hW h0 hf) lm_X11_readNumber lv_m_X11_readNumber ll_RX11_200 h0 lc_11 rfl rfl (Nat.le_of_ble_eq_true rfl) (by decide) dX11_readClause_33 rfl k) (fun u35 M36 => ?_)
      refine E.m (h.iastk (k := 11) (hW.clo 42 h0 rfl) (by decide) rfl dX11_readClause_36) ?_
      refine E.nmM (fun M37 => ?_)
      exact hJ37 _
    · exact hJ37 _
  refine E.br (fun k1 k2 => h.if_ne (tgt := 18) dX11_readClause_1 (by decide) k2 k1) ?_ ?_
  · refine E.m (h.aload_n 0 dX11_readClause_4 rfl) ?_
    refine E.m (h.get h0 lf_RX11_44 dX11_readClause_5 fv_11_3) ?_
    refine E.m (h.bipush (v := (10 : Int32)) dX11_readClause_8 (by decide)) ?_
    refine E.m (h.aload_n 0 dX11_readClause_10 rfl) ?_
    refine E.m (h.iconst (v := (1 : Int32)) dX11_readClause_11 (by decide)) ?_
    refine E.m (h.bipush (v := (8 : Int32)) dX11_readClause_12 (by decide)) ?_
    refine E.bnd (fun u38 M39 => w M39 17 [(0, .ref t), (1, .int x1_)] [.int u38, .int (10 : Int32), .ref (t + 3)]) (fun u38 M39 hf k => h.callV (As := [.int (1 : Int32), .int (8 : Int32)]) (rest := [.int (10 : Int32), .ref (t + 3)]) (c_X11_readNumber hW h0 hf) lm_X11_readNumber lv_m_X11_readNumber ll_RX11_200 h0 lc_11 rfl rfl (Nat.le_of_ble_eq_true rfl) (by decide) dX11_readClause_14 rfl k) (fun u38 M39 => ?_)
    refine E.m (h.iastk (k := 10) (hW.clo 42 h0 rfl) (by decide) rfl dX11_readClause_17) ?_
    refine E.nmM (fun M40 => ?_)
    exact hJ18 _
  · exact hJ18 _
def f_X11_readLine (t : Nat) (x1_ : Int32) (M : Mem) : Option (Int32 × Mem) :=
  bd (f_X11_which t (t + 2) 4 9 M) (fun u1 M2 => jn1 (fun M3 => if (M3.1 t 19) = 0 then (bd (f_X11_stepOn t M3) (fun _ M5 => bd (f_X11_readClause t u1 M5) (fun _ M7 => bd (f_X11_mark t (59 : Int32) M7) (fun _ M9 => some (x1_ ||| ((1 : Int32) <<< (u1 &&& 31)), M9))))) else (some (x1_, M3))) (fun J35 => if u1 = (-1 : Int32) then (bd (f_X11_wrong t (1 : Int32) M2) (fun _ M15 => J35 M15)) else (bd (f_X11_isOf x1_ u1 M2) (fun u10 M11 => if u10 = 0 then (J35 M11) else (bd (f_X11_wrong t (5 : Int32) M11) (fun _ M13 => J35 M13))))))
set_option maxRecDepth 20000 in
theorem c_X11_readLine {G : Ctx} (hW : WFG G) {t : Nat} {x1_ : Int32} {M M' : Mem} {r : Int32} (h0 : hs G t (0, 11)) (hf : f_X11_readLine t x1_ M = some (r, M')) : Ct G yX11_readLine cX11_readLine 3 (some .int) 96 5290 [.ref t, .int x1_] M (some (.int r)) M' := by
  refine ct_i hW (by decide +kernel) (Nat.le_of_ble_eq_true rfl) (fun w h hr => ?_)
  have h : Rb G cX11_readLine RX11 3 96 5290 w := h
  refine (?_ : E (fun q => q = (r, M')) (f_X11_readLine t x1_ M) (w M 0 [(0, .ref t), (1, .int x1_)] [])) _ hf rfl
  unfold f_X11_readLine
  refine E.m (h.aload_n 0 dX11_readLine_0 rfl) ?_
  refine E.m (h.aload_n 0 dX11_readLine_1 rfl) ?_
  refine E.m (h.get h0 lf_RX11_41 dX11_readLine_2 fv_11_1) ?_
  refine E.bnd (fun u1 M2 => w M2 8 [(0, .ref t), (1, .int x1_)] [.int u1]) (fun u1 M2 hf k => h.callV (As := [.ref (t + 2)]) (rest := []) (c_X11_which hW h0 ⟨(hW.clo 41 h0 rfl), by decide⟩ hf) lm_X11_which lv_m_X11_which ll_RX11_206 h0 lc_11 rfl rfl (Nat.le_of_ble_eq_true rfl) (by decide) dX11_readLine_5 rfl k) (fun u1 M2 => ?_)
  refine E.m (h.istore_n dX11_readLine_8 (by decide) rfl) ?_
  refine E.m (h.iload_n 0 dX11_readLine_9 rfl) ?_
  refine E.m (h.iconst (v := (-1 : Int32)) dX11_readLine_10 (by decide)) ?_
  refine E.join1 (fun M3 => w M3 35 [(0, .ref t), (1, .int x1_), (2, .int u1)] []) (fun M3 => ?_) (fun J35 hJ35 => ?_)
  · refine E.m (h.aload_n 0 dX11_readLine_35 rfl) ?_
    refine E.m (h.get h0 lf_RX11_168 dX11_readLine_36 fv_11_19) ?_
    refine E.br (fun k1 k2 => h.if_eq (tgt := 44) dX11_readLine_39 (by decide) k1 k2) ?_ ?_
    · refine E.m (h.aload_n 0 dX11_readLine_44 rfl) ?_
      refine E.bnd (fun _ M5 => w M5 48 [(0, .ref t), (1, .int x1_), (2, .int u1)] []) (fun _ M5 hf k => h.callV (As := []) (rest := []) (c_X11_stepOn hW h0 hf) lm_X11_stepOn lv_m_X11_stepOn ll_RX11_193 h0 lc_11 rfl rfl (Nat.le_of_ble_eq_true rfl) (by decide) dX11_readLine_45 rfl k) (fun _ M5 => ?_)
      refine E.m (h.aload_n 0 dX11_readLine_48 rfl) ?_
      refine E.m (h.iload_n 2 dX11_readLine_49 rfl) ?_
      refine E.bnd (fun _ M7 => w M7 53 [(0, .ref t), (1, .int x1_), (2, .int u1)] []) (fun _ M7 hf k => h.callV (As := [.int u1]) (rest := []) (c_X11_readClause hW h0 hf) lm_X11_readClause lv_m_X11_readClause ll_RX11_244 h0 lc_11 rfl rfl (Nat.le_of_ble_eq_true rfl) (by decide) dX11_readLine_50 rfl k) (fun _ M7 => ?_)
      refine E.m (h.aload_n 0 dX11_readLine_53 rfl) ?_
      refine E.m (h.bipush (v := (59 : Int32)) dX11_readLine_54 (by decide)) ?_
      refine E.bnd (fun _ M9 => w M9 59 [(0, .ref t), (1, .int x1_), (2, .int u1)] []) (fun _ M9 hf k => h.callV (As := [.int (59 : Int32)]) (rest := []) (c_X11_mark hW h0 hf) lm_X11_mark lv_m_X11_mark ll_RX11_210 h0 lc_11 rfl rfl (Nat.le_of_ble_eq_true rfl) (by decide) dX11_readLine_56 rfl k) (fun _ M9 => ?_)
      refine E.m (h.iload_n 1 dX11_readLine_59 rfl) ?_
      refine E.m (h.iconst (v := (1 : Int32)) dX11_readLine_60 (by decide)) ?_
      refine E.m (h.iload_n 2 dX11_readLine_61 rfl) ?_
      refine E.m (h.ishl dX11_readLine_62) ?_
      refine E.m (h.ior dX11_readLine_63) ?_
      exact E.some (ret_i hr rfl dX11_readLine_64)
    · refine E.m (h.iload_n 1 dX11_readLine_42 rfl) ?_
      exact E.some (ret_i hr rfl dX11_readLine_43)
  refine E.br (fun k1 k2 => h.icmp_ne (tgt := 22) dX11_readLine_11 (by decide) k2 k1) ?_ ?_
  · refine E.m (h.aload_n 1 dX11_readLine_14 rfl) ?_
    refine E.m (h.iconst (v := (1 : Int32)) dX11_readLine_15 (by decide)) ?_
    refine E.bnd (fun _ M15 => w M15 19 [(2, .int u1), (0, .ref t), (1, .int x1_)] []) (fun _ M15 hf k => h.callV (As := [.int (1 : Int32)]) (rest := []) (c_X11_wrong hW h0 hf) lm_X11_wrong lv_m_X11_wrong ll_RX11_189 h0 lc_11 rfl rfl (Nat.le_of_ble_eq_true rfl) (by decide) dX11_readLine_16 rfl k) (fun _ M15 => ?_)
    refine E.m (h.goto (tgt := 35) dX11_readLine_19 (by decide)) ?_
    refine E.m (h.sub [1, 2, 0] rfl) ?_
    exact hJ35 _
  · refine E.m (h.iload_n 2 dX11_readLine_22 rfl) ?_
    refine E.m (h.iload_n 0 dX11_readLine_23 rfl) ?_
    refine E.bnd (fun u10 M11 => w M11 27 [(2, .int u1), (0, .ref t), (1, .int x1_)] [.int u10]) (fun u10 M11 hf k => h.callS (As := [.int x1_, .int u1]) (rest := []) (c_X11_isOf hW hf) lm_X11_isOf ls_m_X11_isOf ll_RX11_240 rfl rfl (Nat.le_of_ble_eq_true rfl) (by decide) dX11_readLine_24 rfl k) (fun u10 M11 => ?_)
    refine E.br (fun k1 k2 => h.if_eq (tgt := 35) dX11_readLine_27 (by decide) k1 k2) ?_ ?_
    · refine E.m (h.sub [1, 2, 0] rfl) ?_
      exact hJ35 _
    · refine E.m (h.aload_n 1 dX11_readLine_30 rfl) ?_
      refine E.m (h.iconst (v := (5 : Int32)) dX11_readLine_31 (by decide)) ?_
      refine E.bnd (fun _ M13 => w M13 35 [(2, .int u1), (0, .ref t), (1, .int x1_)] []) (fun _ M13 hf k => h.callV (As := [.int (5 : Int32)]) (rest := []) (c_X11_wrong hW h0 hf) lm_X11_wrong lv_m_X11_wrong ll_RX11_189 h0 lc_11 rfl rfl (Nat.le_of_ble_eq_true rfl) (by decide) dX11_readLine_32 rfl k) (fun _ M13 => ?_)
      refine E.m (h.sub [1, 2, 0] rfl) ?_
      exact hJ35 _
def f_X11_beginTold (t : Nat) (M : Mem) : Option (Unit × Mem) :=
  nm (wi M (t + 3) 10 (4 : Int32)) (fun M1 => nm (wi M1 (t + 3) 11 (12 : Int32)) (fun M2 => nm (wi M2 (t + 3) 12 (4 : Int32)) (fun M3 => nm (wi M3 (t + 3) 13 (1 : Int32)) (fun M4 => nm (wi M4 (t + 3) 14 (8 : Int32)) (fun M5 => nm (wi M5 (t + 3) 15 (0 : Int32)) (fun M6 => nm (wi M6 (t + 3) 16 (1 : Int32)) (fun M7 => nm (wi M7 (t + 3) 17 (1 : Int32)) (fun M8 => nm (wi M8 (t + 3) 18 (0 : Int32)) (fun M9 => nm (wi M9 (t + 3) 19 (0 : Int32)) (fun M10 => nm (wi M10 (t + 4) 16 (85 : Int32)) (fun M11 => some ((), M11))))))))))))
set_option maxRecDepth 20000 in
theorem c_X11_beginTold {G : Ctx} (hW : WFG G) {t : Nat} {M M' : Mem} (h0 : hs G t (0, 11)) (hf : f_X11_beginTold t M = some ((), M')) : Ct G yX11_beginTold cX11_beginTold 1 none 0 0 [.ref t] M none M' := by
  refine ct_v hW (by decide +kernel) (Nat.le_of_ble_eq_true rfl) (fun w h hr => ?_)
  have h : Rb G cX11_beginTold RX11 1 0 0 w := h
  refine (?_ : E (fun q => q = ((), M')) (f_X11_beginTold t M) (w M 0 [(0, .ref t)] [])) _ hf rfl
  unfold f_X11_beginTold
  refine E.m (h.aload_n 0 dX11_beginTold_0 rfl) ?_
  refine E.m (h.get h0 lf_RX11_44 dX11_beginTold_1 fv_11_3) ?_
  refine E.m (h.bipush (v := (10 : Int32)) dX11_beginTold_4 (by decide)) ?_
  refine E.m (h.iconst (v := (4 : Int32)) dX11_beginTold_6 (by decide)) ?_
  refine E.m (h.iastk (k := 10) (hW.clo 42 h0 rfl) (by decide) rfl dX11_beginTold_7) ?_
  refine E.nmM (fun M1 => ?_)
  refine E.m (h.aload_n 0 dX11_beginTold_8 rfl) ?_
  refine E.m (h.get h0 lf_RX11_44 dX11_beginTold_9 fv_11_3) ?_
  refine E.m (h.bipush (v := (11 : Int32)) dX11_beginTold_12 (by decide)) ?_
  refine E.m (h.bipush (v := (12 : Int32)) dX11_beginTold_14 (by decide)) ?_
  refine E.m (h.iastk (k := 11) (hW.clo 42 h0 rfl) (by decide) rfl dX11_beginTold_16) ?_
  refine E.nmM (fun M2 => ?_)
  refine E.m (h.aload_n 0 dX11_beginTold_17 rfl) ?_
  refine E.m (h.get h0 lf_RX11_44 dX11_beginTold_18 fv_11_3) ?_
  refine E.m (h.bipush (v := (12 : Int32)) dX11_beginTold_21 (by decide)) ?_
  refine E.m (h.iconst (v := (4 : Int32)) dX11_beginTold_23 (by decide)) ?_
  refine E.m (h.iastk (k := 12) (hW.clo 42 h0 rfl) (by decide) rfl dX11_beginTold_24) ?_
  refine E.nmM (fun M3 => ?_)
  refine E.m (h.aload_n 0 dX11_beginTold_25 rfl) ?_
  refine E.m (h.get h0 lf_RX11_44 dX11_beginTold_26 fv_11_3) ?_
  refine E.m (h.bipush (v := (13 : Int32)) dX11_beginTold_29 (by decide)) ?_
  refine E.m (h.iconst (v := (1 : Int32)) dX11_beginTold_31 (by decide)) ?_
  refine E.m (h.iastk (k := 13) (hW.clo 42 h0 rfl) (by decide) rfl dX11_beginTold_32) ?_
  refine E.nmM (fun M4 => ?_)
  refine E.m (h.aload_n 0 dX11_beginTold_33 rfl) ?_
  refine E.m (h.get h0 lf_RX11_44 dX11_beginTold_34 fv_11_3) ?_
  refine E.m (h.bipush (v := (14 : Int32)) dX11_beginTold_37 (by decide)) ?_
  refine E.m (h.bipush (v := (8 : Int32)) dX11_beginTold_39 (by decide)) ?_
  refine E.m (h.iastk (k := 14) (hW.clo 42 h0 rfl) (by decide) rfl dX11_beginTold_41) ?_
  refine E.nmM (fun M5 => ?_)
  refine E.m (h.aload_n 0 dX11_beginTold_42 rfl) ?_
  refine E.m (h.get h0 lf_RX11_44 dX11_beginTold_43 fv_11_3) ?_
  refine E.m (h.bipush (v := (15 : Int32)) dX11_beginTold_46 (by decide)) ?_
  refine E.m (h.iconst (v := (0 : Int32)) dX11_beginTold_48 (by decide)) ?_
  refine E.m (h.iastk (k := 15) (hW.clo 42 h0 rfl) (by decide) rfl dX11_beginTold_49) ?_
  refine E.nmM (fun M6 => ?_)
  refine E.m (h.aload_n 0 dX11_beginTold_50 rfl) ?_
  refine E.m (h.get h0 lf_RX11_44 dX11_beginTold_51 fv_11_3) ?_
  refine E.m (h.bipush (v := (16 : Int32)) dX11_beginTold_54 (by decide)) ?_
  refine E.m (h.iconst (v := (1 : Int32)) dX11_beginTold_56 (by decide)) ?_
  refine E.m (h.iastk (k := 16) (hW.clo 42 h0 rfl) (by decide) rfl dX11_beginTold_57) ?_
  refine E.nmM (fun M7 => ?_)
  refine E.m (h.aload_n 0 dX11_beginTold_58 rfl) ?_
  refine E.m (h.get h0 lf_RX11_44 dX11_beginTold_59 fv_11_3) ?_
  refine E.m (h.bipush (v := (17 : Int32)) dX11_beginTold_62 (by decide)) ?_
  refine E.m (h.iconst (v := (1 : Int32)) dX11_beginTold_64 (by decide)) ?_
  refine E.m (h.iastk (k := 17) (hW.clo 42 h0 rfl) (by decide) rfl dX11_beginTold_65) ?_
  refine E.nmM (fun M8 => ?_)
  refine E.m (h.aload_n 0 dX11_beginTold_66 rfl) ?_
  refine E.m (h.get h0 lf_RX11_44 dX11_beginTold_67 fv_11_3) ?_
  refine E.m (h.bipush (v := (18 : Int32)) dX11_beginTold_70 (by decide)) ?_
  refine E.m (h.iconst (v := (0 : Int32)) dX11_beginTold_72 (by decide)) ?_
  refine E.m (h.iastk (k := 18) (hW.clo 42 h0 rfl) (by decide) rfl dX11_beginTold_73) ?_
  refine E.nmM (fun M9 => ?_)
  refine E.m (h.aload_n 0 dX11_beginTold_74 rfl) ?_
  refine E.m (h.get h0 lf_RX11_44 dX11_beginTold_75 fv_11_3) ?_
  refine E.m (h.bipush (v := (19 : Int32)) dX11_beginTold_78 (by decide)) ?_
  refine E.m (h.iconst (v := (0 : Int32)) dX11_beginTold_80 (by decide)) ?_
  refine E.m (h.iastk (k := 19) (hW.clo 42 h0 rfl) (by decide) rfl dX11_beginTold_81) ?_
  refine E.nmM (fun M10 => ?_)
  refine E.m (h.aload_n 0 dX11_beginTold_82 rfl) ?_
  refine E.m (h.get h0 lf_RX11_48 dX11_beginTold_83 fv_11_4) ?_
  refine E.m (h.bipush (v := (16 : Int32)) dX11_beginTold_86 (by decide)) ?_
  refine E.m (h.bipush (v := (85 : Int32)) dX11_beginTold_88 (by decide)) ?_
  refine E.m (h.iastk (k := 16) (hW.clo 43 h0 rfl) (by decide) rfl dX11_beginTold_90) ?_
  refine E.nmM (fun M11 => ?_)
  exact E.some (ret_v hr dX11_beginTold_91)
def l_X11_takeHalf_2 (r1_ : Nat) (n1_ : Nat) (k1 : Int32) (M2 : Mem) : Option ((Int32 × Mem) ⊕ (Unit × Mem)) :=
  if ((Int32.ofNat n1_) / (2 : Int32)) ≤ k1 then (some (.inr ((), M2))) else (gdi (((Int32.ofNat n1_) / (2 : Int32)) + k1) n1_ (gdi k1 n1_ (nm (wi M2 r1_ k1.toNatClampNeg (M2.1 r1_ (((Int32.ofNat n1_) / (2 : Int32)) + k1).toNatClampNeg)) (fun M3 => nm (k1 + (1 : Int32)) (fun y4 => some (.inl (y4, M3)))))))
def f_X11_takeHalf (r1_ : Nat) (n1_ : Nat) (M : Mem) : Option (Unit × Mem) :=
  lop2 FU (l_X11_takeHalf_2 r1_ n1_) (0 : Int32) M
set_option maxRecDepth 20000 in
theorem c_X11_takeHalf {G : Ctx} (hW : WFG G) {r1_ : Nat} {n1_ : Nat} {M M' : Mem} (h1 : hs G r1_ (1, n1_)) (hf : f_X11_takeHalf r1_ n1_ M = some ((), M')) : Ct G yX11_takeHalf cX11_takeHalf 2 none 0 0 [.ref r1_] M none M' := by
  refine ct_v hW (by decide +kernel) (Nat.le_of_ble_eq_true rfl) (fun w h hr => ?_)
  have h : Rb G cX11_takeHalf RX11 2 0 0 w := h
  refine (?_ : E (fun q => q = ((), M')) (f_X11_takeHalf r1_ n1_ M) (w M 0 [(0, .ref r1_)] [])) _ hf rfl
  unfold f_X11_takeHalf
  refine E.m (h.iconst (v := (0 : Int32)) dX11_takeHalf_0 (by decide)) ?_
  refine E.m (h.istore_n dX11_takeHalf_1 (by decide) rfl) ?_
  refine E.m (h.sub [1, 0] rfl) ?_
  refine E.loop2 (fun k1 M2 => w M2 2 [(0, .ref r1_), (1, .int k1)] []) (fun k1 M2 => ?_) _ _ _
  unfold l_X11_takeHalf_2
  refine E.m (h.iload_n 1 dX11_takeHalf_2 rfl) ?_
  refine E.m (h.aload_n 0 dX11_takeHalf_3 rfl) ?_
  refine E.m (h.alen (v := Int32.ofNat n1_) h1 rfl dX11_takeHalf_4) ?_
  refine E.m (h.iconst (v := (2 : Int32)) dX11_takeHalf_5 (by decide)) ?_
  refine E.m (h.idiv (by decide) dX11_takeHalf_6) ?_
  refine E.br (fun k1 k2 => h.icmp_ge (tgt := 27) dX11_takeHalf_7 (by decide) k1 k2) ?_ ?_
  · exact E.some (ret_v hr dX11_takeHalf_27)
  · refine E.m (h.aload_n 0 dX11_takeHalf_10 rfl) ?_
    refine E.m (h.iload_n 1 dX11_takeHalf_11 rfl) ?_
    refine E.m (h.aload_n 0 dX11_takeHalf_12 rfl) ?_
    refine E.m (h.aload_n 0 dX11_takeHalf_13 rfl) ?_
    refine E.m (h.alen (v := Int32.ofNat n1_) h1 rfl dX11_takeHalf_14) ?_
    refine E.m (h.iconst (v := (2 : Int32)) dX11_takeHalf_15 (by decide)) ?_
    refine E.m (h.idiv (by decide) dX11_takeHalf_16) ?_
    refine E.m (h.iload_n 1 dX11_takeHalf_17 rfl) ?_
    refine E.m (h.iadd dX11_takeHalf_18) ?_
    refine E.gi (fun hi k => h.iald h1 hi dX11_takeHalf_19 k) ?_
    refine E.gi (fun hi k => h.iast h1 hi dX11_takeHalf_20 k) ?_
    refine E.nmM (fun M3 => ?_)
    refine E.m (h.iinc (v := (1 : Int32)) 1 dX11_takeHalf_21 rfl (by decide) (by decide) rfl) ?_
    refine E.nmL (fun y4 => ?_)
    refine E.m (h.goto (tgt := 2) dX11_takeHalf_24 (by decide)) ?_
    refine E.m (h.sub [1, 0] rfl) ?_
    exact E.some (fun q => q)
def l_X11_forgetGiven_2 (t : Nat) (k1 : Int32) (M2 : Mem) : Option ((Int32 × Mem) ⊕ (Unit × Mem)) :=
  if (2048 : Int32) ≤ k1 then (some (.inr ((), M2))) else (gdi k1 2048 (nm (wi M2 (t + 14) k1.toNatClampNeg (0 : Int32)) (fun M3 => nm (k1 + (1 : Int32)) (fun y4 => some (.inl (y4, M3))))))
def f_X11_forgetGiven (t : Nat) (M : Mem) : Option (Unit × Mem) :=
  lop2 FU (l_X11_forgetGiven_2 t) (0 : Int32) M
set_option maxRecDepth 20000 in
theorem c_X11_forgetGiven {G : Ctx} (hW : WFG G) {t : Nat} {M M' : Mem} (h0 : hs G t (0, 11)) (hf : f_X11_forgetGiven t M = some ((), M')) : Ct G yX11_forgetGiven cX11_forgetGiven 2 none 0 0 [.ref t] M none M' := by
  refine ct_v hW (by decide +kernel) (Nat.le_of_ble_eq_true rfl) (fun w h hr => ?_)
  have h : Rb G cX11_forgetGiven RX11 2 0 0 w := h
  refine (?_ : E (fun q => q = ((), M')) (f_X11_forgetGiven t M) (w M 0 [(0, .ref t)] [])) _ hf rfl
  unfold f_X11_forgetGiven
  refine E.m (h.iconst (v := (0 : Int32)) dX11_forgetGiven_0 (by decide)) ?_
  refine E.m (h.istore_n dX11_forgetGiven_1 (by decide) rfl) ?_
  refine E.m (h.sub [1, 0] rfl) ?_
  refine E.loop2 (fun k1 M2 => w M2 2 [(0, .ref t), (1, .int k1)] []) (fun k1 M2 => ?_) _ _ _
  unfold l_X11_forgetGiven_2
  refine E.m (h.iload_n 1 dX11_forgetGiven_2 rfl) ?_
  refine E.m (h.sipush (v := (2048 : Int32)) dX11_forgetGiven_3 (by decide)) ?_
  refine E.br (fun k1 k2 => h.icmp_ge (tgt := 22) dX11_forgetGiven_6 (by decide) k1 k2) ?_ ?_
  · exact E.some (ret_v hr dX11_forgetGiven_22)
  · refine E.m (h.aload_n 0 dX11_forgetGiven_9 rfl) ?_
    refine E.m (h.get h0 lf_RX11_81 dX11_forgetGiven_10 fv_11_28) ?_
    refine E.m (h.iload_n 1 dX11_forgetGiven_13 rfl) ?_
    refine E.m (h.iconst (v := (0 : Int32)) dX11_forgetGiven_14 (by decide)) ?_
    refine E.gi (fun hi k => h.zast (hW.clo 53 h0 rfl) hi (by decide) dX11_forgetGiven_15 k) ?_
    refine E.nmM (fun M3 => ?_)
    refine E.m (h.iinc (v := (1 : Int32)) 1 dX11_forgetGiven_16 rfl (by decide) (by decide) rfl) ?_
    refine E.nmL (fun y4 => ?_)
    refine E.m (h.goto (tgt := 2) dX11_forgetGiven_19 (by decide)) ?_
    refine E.m (h.sub [1, 0] rfl) ?_
    exact E.some (fun q => q)
def l_X11_emptySlots_2 (t : Nat) (k1 : Int32) (M2 : Mem) : Option ((Int32 × Mem) ⊕ (Unit × Mem)) :=
  if (64 : Int32) ≤ k1 then (some (.inr ((), M2))) else (gdi ((153 : Int32) + k1) 665 (nm (wi M2 (t + 8) ((153 : Int32) + k1).toNatClampNeg (-1 : Int32)) (fun M3 => gdi ((217 : Int32) + k1) 665 (nm (wi M3 (t + 8) ((217 : Int32) + k1).toNatClampNeg (-1 : Int32)) (fun M4 => nm (k1 + (1 : Int32)) (fun y5 => some (.inl (y5, M4))))))))
def f_X11_emptySlots (t : Nat) (M : Mem) : Option (Unit × Mem) :=
  lop2 FU (l_X11_emptySlots_2 t) (0 : Int32) M
set_option maxRecDepth 20000 in
theorem c_X11_emptySlots {G : Ctx} (hW : WFG G) {t : Nat} {M M' : Mem} (h0 : hs G t (0, 11)) (hf : f_X11_emptySlots t M = some ((), M')) : Ct G yX11_emptySlots cX11_emptySlots 2 none 0 0 [.ref t] M none M' := by
  refine ct_v hW (by decide +kernel) (Nat.le_of_ble_eq_true rfl) (fun w h hr => ?_)
  have h : Rb G cX11_emptySlots RX11 2 0 0 w := h
  refine (?_ : E (fun q => q = ((), M')) (f_X11_emptySlots t M) (w M 0 [(0, .ref t)] [])) _ hf rfl
  unfold f_X11_emptySlots
  refine E.m (h.iconst (v := (0 : Int32)) dX11_emptySlots_0 (by decide)) ?_
  refine E.m (h.istore_n dX11_emptySlots_1 (by decide) rfl) ?_
  refine E.m (h.sub [1, 0] rfl) ?_
  refine E.loop2 (fun k1 M2 => w M2 2 [(0, .ref t), (1, .int k1)] []) (fun k1 M2 => ?_) _ _ _
  unfold l_X11_emptySlots_2
  refine E.m (h.iload_n 1 dX11_emptySlots_2 rfl) ?_
  refine E.m (h.bipush (v := (64 : Int32)) dX11_emptySlots_3 (by decide)) ?_
  refine E.br (fun k1 k2 => h.icmp_ge (tgt := 36) dX11_emptySlots_5 (by decide) k1 k2) ?_ ?_
  · exact E.some (ret_v hr dX11_emptySlots_36)
  · refine E.m (h.aload_n 0 dX11_emptySlots_8 rfl) ?_
    refine E.m (h.get h0 lf_RX11_59 dX11_emptySlots_9 fv_11_8) ?_
    refine E.m (h.sipush (v := (153 : Int32)) dX11_emptySlots_12 (by decide)) ?_
    refine E.m (h.iload_n 1 dX11_emptySlots_15 rfl) ?_
    refine E.m (h.iadd dX11_emptySlots_16) ?_
    refine E.m (h.iconst (v := (-1 : Int32)) dX11_emptySlots_17 (by decide)) ?_
    refine E.gi (fun hi k => h.iast (hW.clo 47 h0 rfl) hi dX11_emptySlots_18 k) ?_
    refine E.nmM (fun M3 => ?_)
    refine E.m (h.aload_n 0 dX11_emptySlots_19 rfl) ?_
    refine E.m (h.get h0 lf_RX11_59 dX11_emptySlots_20 fv_11_8) ?_
    refine E.m (h.sipush (v := (217 : Int32)) dX11_emptySlots_23 (by decide)) ?_
    refine E.m (h.iload_n 1 dX11_emptySlots_26 rfl) ?_
    refine E.m (h.iadd dX11_emptySlots_27) ?_
    refine E.m (h.iconst (v := (-1 : Int32)) dX11_emptySlots_28 (by decide)) ?_
    refine E.gi (fun hi k => h.iast (hW.clo 47 h0 rfl) hi dX11_emptySlots_29 k) ?_
    refine E.nmM (fun M4 => ?_)
    refine E.m (h.iinc (v := (1 : Int32)) 1 dX11_emptySlots_30 rfl (by decide) (by decide) rfl) ?_
    refine E.nmL (fun y5 => ?_)
    refine E.m (h.goto (tgt := 2) dX11_emptySlots_33 (by decide)) ?_
    refine E.m (h.sub [1, 0] rfl) ?_
    exact E.some (fun q => q)
def l_X11_takeOver_54 (t : Nat) (k13 : Int32) (M14 : Mem) : Option ((Int32 × Mem) ⊕ (Unit × Mem)) :=
  if (665 : Int32) ≤ k13 then (bd (f_X11_emptySlots t M14) (fun _ M16 => nm (wi M16 (t + 8) 29 (M16.1 (t + 3) 1)) (fun M17 => nm (wi M17 (t + 8) 27 (M17.1 (t + 3) 5)) (fun M18 => nm (wi M18 t 31 (0 : Int32)) (fun M19 => nm (wi M19 t 32 (0 : Int32)) (fun M20 => nm (wi M20 t 44 (0 : Int32)) (fun M21 => some (.inr ((), M21))))))))) else (gdi k13 665 (nm (wi M14 (t + 8) k13.toNatClampNeg (0 : Int32)) (fun M22 => nm (k13 + (1 : Int32)) (fun y23 => some (.inl (y23, M22))))))
def f_X11_takeOver (t : Nat) (M : Mem) : Option (Unit × Mem) :=
  bd (f_X11_takeHalf (t + 3) 20 M) (fun _ M2 => bd (f_X11_takeHalf (t + 4) 32 M2) (fun _ M4 => bd (f_X11_takeHalf (t + 5) 1400 M4) (fun _ M6 => bd (f_X11_takeHalf (t + 6) 1400 M6) (fun _ M8 => nm (wi M8 t 24 (M8.1 (t + 3) 2)) (fun M9 => nm (wi M9 t 25 (M9.1 (t + 3) 3)) (fun M10 => bd (f_X11_forgetGiven t M10) (fun _ M12 => lop2 FU (l_X11_takeOver_54 t) (0 : Int32) M12)))))))
set_option maxRecDepth 20000 in
theorem c_X11_takeOver {G : Ctx} (hW : WFG G) {t : Nat} {M M' : Mem} (h0 : hs G t (0, 11)) (hf : f_X11_takeOver t M = some ((), M')) : Ct G yX11_takeOver cX11_takeOver 2 none 1 21 [.ref t] M none M' := by
  refine ct_v hW (by decide +kernel) (Nat.le_of_ble_eq_true rfl) (fun w h hr => ?_)
  have h : Rb G cX11_takeOver RX11 2 1 21 w := h
  refine (?_ : E (fun q => q = ((), M')) (f_X11_takeOver t M) (w M 0 [(0, .ref t)] [])) _ hf rfl
  unfold f_X11_takeOver
  refine E.m (h.aload_n 0 dX11_takeOver_0 rfl) ?_
  refine E.m (h.get h0 lf_RX11_44 dX11_takeOver_1 fv_11_3) ?_
  refine E.bnd (fun _ M2 => w M2 7 [(0, .ref t)] []) (fun _ M2 hf k => h.callS (As := [.ref (t + 3)]) (rest := []) (c_X11_takeHalf hW (hW.clo 42 h0 rfl) hf) lm_X11_takeHalf ls_m_X11_takeHalf ll_RX11_262 rfl rfl (Nat.le_of_ble_eq_true rfl) (by decide) dX11_takeOver_4 rfl k) (fun _ M2 => ?_)
  refine E.m (h.aload_n 0 dX11_takeOver_7 rfl) ?_
  refine E.m (h.get h0 lf_RX11_48 dX11_takeOver_8 fv_11_4) ?_
  refine E.bnd (fun _ M4 => w M4 14 [(0, .ref t)] []) (fun _ M4 hf k => h.callS (As := [.ref (t + 4)]) (rest := []) (c_X11_takeHalf hW (hW.clo 43 h0 rfl) hf) lm_X11_takeHalf ls_m_X11_takeHalf ll_RX11_262 rfl rfl (Nat.le_of_ble_eq_true rfl) (by decide) dX11_takeOver_11 rfl k) (fun _ M4 => ?_)
  refine E.m (h.aload_n 0 dX11_takeOver_14 rfl) ?_
  refine E.m (h.get h0 lf_RX11_50 dX11_takeOver_15 fv_11_5) ?_
  refine E.bnd (fun _ M6 => w M6 21 [(0, .ref t)] []) (fun _ M6 hf k => h.callS (As := [.ref (t + 5)]) (rest := []) (c_X11_takeHalf hW (hW.clo 44 h0 rfl) hf) lm_X11_takeHalf ls_m_X11_takeHalf ll_RX11_262 rfl rfl (Nat.le_of_ble_eq_true rfl) (by decide) dX11_takeOver_18 rfl k) (fun _ M6 => ?_)
  refine E.m (h.aload_n 0 dX11_takeOver_21 rfl) ?_
  refine E.m (h.get h0 lf_RX11_53 dX11_takeOver_22 fv_11_6) ?_
  refine E.bnd (fun _ M8 => w M8 28 [(0, .ref t)] []) (fun _ M8 hf k => h.callS (As := [.ref (t + 6)]) (rest := []) (c_X11_takeHalf hW (hW.clo 45 h0 rfl) hf) lm_X11_takeHalf ls_m_X11_takeHalf ll_RX11_262 rfl rfl (Nat.le_of_ble_eq_true rfl) (by decide) dX11_takeOver_25 rfl k) (fun _ M8 => ?_)
  refine E.m (h.aload_n 0 dX11_takeOver_28 rfl) ?_
  refine E.m (h.aload_n 0 dX11_takeOver_29 rfl) ?_
  refine E.m (h.get h0 lf_RX11_44 dX11_takeOver_30 fv_11_3) ?_
  refine E.m (h.iconst (v := (2 : Int32)) dX11_takeOver_33 (by decide)) ?_
  refine E.m (h.ialdk (k := 2) (hW.clo 42 h0 rfl) (by decide) rfl dX11_takeOver_34) ?_
  refine E.m (h.puti h0 lp_RX11_266 rfl dX11_takeOver_35) ?_
  refine E.nmM (fun M9 => ?_)
  refine E.m (h.aload_n 0 dX11_takeOver_38 rfl) ?_
  refine E.m (h.aload_n 0 dX11_takeOver_39 rfl) ?_
  refine E.m (h.get h0 lf_RX11_44 dX11_takeOver_40 fv_11_3) ?_
  refine E.m (h.iconst (v := (3 : Int32)) dX11_takeOver_43 (by decide)) ?_
  refine E.m (h.ialdk (k := 3) (hW.clo 42 h0 rfl) (by decide) rfl dX11_takeOver_44) ?_
  refine E.m (h.puti h0 lp_RX11_269 rfl dX11_takeOver_45) ?_
  refine E.nmM (fun M10 => ?_)
  refine E.m (h.aload_n 0 dX11_takeOver_48 rfl) ?_
  refine E.bnd (fun _ M12 => w M12 52 [(0, .ref t)] []) (fun _ M12 hf k => h.callV (As := []) (rest := []) (c_X11_forgetGiven hW h0 hf) lm_X11_forgetGiven lv_m_X11_forgetGiven ll_RX11_272 h0 lc_11 rfl rfl (Nat.le_of_ble_eq_true rfl) (by decide) dX11_takeOver_49 rfl k) (fun _ M12 => ?_)
  refine E.m (h.iconst (v := (0 : Int32)) dX11_takeOver_52 (by decide)) ?_
  refine E.m (h.istore_n dX11_takeOver_53 (by decide) rfl) ?_
  refine E.m (h.sub [1, 0] rfl) ?_
  refine E.loop2 (fun k13 M14 => w M14 54 [(0, .ref t), (1, .int k13)] []) (fun k13 M14 => ?_) _ _ _
  unfold l_X11_takeOver_54
  refine E.m (h.iload_n 1 dX11_takeOver_54 rfl) ?_
  refine E.m (h.sipush (v := (665 : Int32)) dX11_takeOver_55 (by decide)) ?_
  refine E.br (fun k1 k2 => h.icmp_ge (tgt := 74) dX11_takeOver_58 (by decide) k1 k2) ?_ ?_
  · refine E.m (h.aload_n 0 dX11_takeOver_74 rfl) ?_
    refine E.bnd (fun _ M16 => w M16 78 [(0, .ref t), (1, .int k13)] []) (fun _ M16 hf k => h.callV (As := []) (rest := []) (c_X11_emptySlots hW h0 hf) lm_X11_emptySlots lv_m_X11_emptySlots ll_RX11_275 h0 lc_11 rfl rfl (Nat.le_of_ble_eq_true rfl) (by decide) dX11_takeOver_75 rfl k) (fun _ M16 => ?_)
    refine E.m (h.aload_n 0 dX11_takeOver_78 rfl) ?_
    refine E.m (h.get h0 lf_RX11_59 dX11_takeOver_79 fv_11_8) ?_
    refine E.m (h.bipush (v := (29 : Int32)) dX11_takeOver_82 (by decide)) ?_
    refine E.m (h.aload_n 0 dX11_takeOver_84 rfl) ?_
    refine E.m (h.get h0 lf_RX11_44 dX11_takeOver_85 fv_11_3) ?_
    refine E.m (h.iconst (v := (1 : Int32)) dX11_takeOver_88 (by decide)) ?_
    refine E.m (h.ialdk (k := 1) (hW.clo 42 h0 rfl) (by decide) rfl dX11_takeOver_89) ?_
    refine E.m (h.iastk (k := 29) (hW.clo 47 h0 rfl) (by decide) rfl dX11_takeOver_90) ?_
    refine E.nmM (fun M17 => ?_)
    refine E.m (h.aload_n 0 dX11_takeOver_91 rfl) ?_
    refine E.m (h.get h0 lf_RX11_59 dX11_takeOver_92 fv_11_8) ?_
    refine E.m (h.bipush (v := (27 : Int32)) dX11_takeOver_95 (by decide)) ?_
    refine E.m (h.aload_n 0 dX11_takeOver_97 rfl) ?_
    refine E.m (h.get h0 lf_RX11_44 dX11_takeOver_98 fv_11_3) ?_
    refine E.m (h.iconst (v := (5 : Int32)) dX11_takeOver_101 (by decide)) ?_
    refine E.m (h.ialdk (k := 5) (hW.clo 42 h0 rfl) (by decide) rfl dX11_takeOver_102) ?_
    refine E.m (h.iastk (k := 27) (hW.clo 47 h0 rfl) (by decide) rfl dX11_takeOver_103) ?_
    refine E.nmM (fun M18 => ?_)
    refine E.m (h.aload_n 0 dX11_takeOver_104 rfl) ?_
    refine E.m (h.iconst (v := (0 : Int32)) dX11_takeOver_105 (by decide)) ?_
    refine E.m (h.puti h0 lp_RX11_278 rfl dX11_takeOver_106) ?_
    refine E.nmM (fun M19 => ?_)
    refine E.m (h.aload_n 0 dX11_takeOver_109 rfl) ?_
    refine E.m (h.iconst (v := (0 : Int32)) dX11_takeOver_110 (by decide)) ?_
    refine E.m (h.puti h0 lp_RX11_281 rfl dX11_takeOver_111) ?_
    refine E.nmM (fun M20 => ?_)
    refine E.m (h.aload_n 0 dX11_takeOver_114 rfl) ?_
    refine E.m (h.iconst (v := (0 : Int32)) dX11_takeOver_115 (by decide)) ?_
    refine E.m (h.putz h0 lp_RX11_284 rfl dX11_takeOver_116 (by decide)) ?_
    refine E.nmM (fun M21 => ?_)
    exact E.some (ret_v hr dX11_takeOver_119)
  · refine E.m (h.aload_n 0 dX11_takeOver_61 rfl) ?_
    refine E.m (h.get h0 lf_RX11_59 dX11_takeOver_62 fv_11_8) ?_
    refine E.m (h.iload_n 1 dX11_takeOver_65 rfl) ?_
    refine E.m (h.iconst (v := (0 : Int32)) dX11_takeOver_66 (by decide)) ?_
    refine E.gi (fun hi k => h.iast (hW.clo 47 h0 rfl) hi dX11_takeOver_67 k) ?_
    refine E.nmM (fun M22 => ?_)
    refine E.m (h.iinc (v := (1 : Int32)) 1 dX11_takeOver_68 rfl (by decide) (by decide) rfl) ?_
    refine E.nmL (fun y23 => ?_)
    refine E.m (h.goto (tgt := 54) dX11_takeOver_71 (by decide)) ?_
    refine E.m (h.sub [1, 0] rfl) ?_
    exact E.some (fun q => q)
