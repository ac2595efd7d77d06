theorem fv_6_0 {M : Mem} {a : Nat} : fvl M a 6 0 = .ref (a + 1) := rfl
theorem fv_6_1 {M : Mem} {a : Nat} : fvl M a 6 1 = .int (M.1 a 1) := rfl
theorem fv_6_8 {M : Mem} {a : Nat} : fvl M a 6 8 = .ref (M.2.2 1) := rfl
theorem fv_6_6 {M : Mem} {a : Nat} : fvl M a 6 6 = .int (M.1 a 6) := rfl
theorem fv_6_3 {M : Mem} {a : Nat} : fvl M a 6 3 = .int (M.1 a 3) := rfl
theorem fv_6_2 {M : Mem} {a : Nat} : fvl M a 6 2 = .int (M.1 a 2) := rfl
theorem fv_6_5 {M : Mem} {a : Nat} : fvl M a 6 5 = .int (M.1 a 5) := rfl
theorem fv_6_4 {M : Mem} {a : Nat} : fvl M a 6 4 = .int (M.1 a 4) := rfl
theorem fv_6_9 {M : Mem} {a : Nat} : fvl M a 6 9 = .ref (M.2.2 2) := rfl
theorem fv_6_10 {M : Mem} {a : Nat} : fvl M a 6 10 = .int (M.1 a 10) := rfl
theorem lf_RX6_9 : FL RX6 9 6 0 := ⟨_, _, _, rfl, rfl, by decide, gin 225 (by decide +kernel) rfl⟩
theorem lf_RX6_33 : FL RX6 33 6 1 := ⟨_, _, _, rfl, rfl, by decide, gin 227 (by decide +kernel) rfl⟩
theorem lp_RX6_33 : FP RX6 33 6 1 .int := ⟨_, _, _, rfl, rfl, by decide, gin 227 (by decide +kernel) rfl, rfl, by decide +kernel⟩
theorem lf_RX6_22 : FL RX6 22 6 8 := ⟨_, _, _, rfl, rfl, by decide, gin 235 (by decide +kernel) rfl⟩
theorem lp_RX6_22 : FP RX6 22 6 8 (.object "CircuitCells$Line") := ⟨_, _, _, rfl, rfl, by decide, gin 235 (by decide +kernel) rfl, rfl, by decide +kernel⟩
theorem lf_RX6_46 : FL RX6 46 6 6 := ⟨_, _, _, rfl, rfl, by decide, gin 232 (by decide +kernel) rfl⟩
theorem lf_RX6_43 : FL RX6 43 6 3 := ⟨_, _, _, rfl, rfl, by decide, gin 229 (by decide +kernel) rfl⟩
theorem lf_RX6_40 : FL RX6 40 6 2 := ⟨_, _, _, rfl, rfl, by decide, gin 228 (by decide +kernel) rfl⟩
theorem lp_RX6_64 : FP RX6 64 6 4 .int := ⟨_, _, _, rfl, rfl, by decide, gin 230 (by decide +kernel) rfl, rfl, by decide +kernel⟩
theorem lp_RX6_58 : FP RX6 58 6 5 .int := ⟨_, _, _, rfl, rfl, by decide, gin 231 (by decide +kernel) rfl, rfl, by decide +kernel⟩
theorem lp_RX6_43 : FP RX6 43 6 3 .int := ⟨_, _, _, rfl, rfl, by decide, gin 229 (by decide +kernel) rfl, rfl, by decide +kernel⟩
theorem lf_RX6_58 : FL RX6 58 6 5 := ⟨_, _, _, rfl, rfl, by decide, gin 231 (by decide +kernel) rfl⟩
theorem lm_X6_kindOf : lkM yX6_kindOf cX6_kindOf 1 (some .int) 1 := ⟨gin 986 (by decide +kernel) rfl, gin 91 (by decide +kernel) rfl, by decide +kernel⟩
theorem ls_m_X6_kindOf : Cond.static yX6_kindOf ∈ gw := gin 985 (by decide +kernel) rfl
theorem ll_RX6_71 : Cond.methodLink RX6 71 yX6_kindOf ∈ gw := gin 984 (by decide +kernel) rfl
theorem lf_RX6_64 : FL RX6 64 6 4 := ⟨_, _, _, rfl, rfl, by decide, gin 230 (by decide +kernel) rfl⟩
theorem ll_RX6_75 : Cond.methodLink RX6 75 yJ0_length_8abf5 ∈ gw := gin 1000 (by decide +kernel) rfl
theorem ll_RX6_80 : Cond.methodLink RX6 80 yJ0_charAt_5068e ∈ gw := gin 1010 (by decide +kernel) rfl
theorem lm_X6_isWord : lkM yX6_isWord cX6_isWord 3 (some .boolean) 1 := ⟨gin 999 (by decide +kernel) rfl, gin 91 (by decide +kernel) rfl, by decide +kernel⟩
theorem lv_m_X6_isWord : Cond.instanceMethod yX6_isWord ∈ gw ∧ Cond.selects (yX6_isWord).cls yX6_isWord yX6_isWord ∈ gw := ⟨gin 998 (by decide +kernel) rfl, gin 9 (by decide +kernel) rfl⟩
theorem ll_RX6_93 : Cond.methodLink RX6 93 yX6_isWord ∈ gw := gin 996 (by decide +kernel) rfl
theorem lc_6 : ∃ T N, vwCl[6]? = some (RX6, T, N) := ⟨_, _, rfl⟩
theorem lp_RX6_46 : FP RX6 46 6 6 .int := ⟨_, _, _, rfl, rfl, by decide, gin 232 (by decide +kernel) rfl, rfl, by decide +kernel⟩
theorem lp_RX6_15 : FP RX6 15 6 7 .int := ⟨_, _, _, rfl, rfl, by decide, gin 233 (by decide +kernel) rfl, rfl, by decide +kernel⟩
theorem lm_X6_fail : lkM yX6_fail cX6_fail 2 none 1 := ⟨gin 1059 (by decide +kernel) rfl, gin 91 (by decide +kernel) rfl, by decide +kernel⟩
theorem lv_m_X6_fail : Cond.instanceMethod yX6_fail ∈ gw ∧ Cond.selects (yX6_fail).cls yX6_fail yX6_fail ∈ gw := ⟨gin 1058 (by decide +kernel) rfl, gin 10 (by decide +kernel) rfl⟩
theorem ll_RX6_84 : Cond.methodLink RX6 84 yX6_fail ∈ gw := gin 1056 (by decide +kernel) rfl
theorem lm_X6_advance : lkM yX6_advance cX6_advance 1 none 0 := ⟨gin 982 (by decide +kernel) rfl, gin 91 (by decide +kernel) rfl, by decide +kernel⟩
theorem lv_m_X6_advance : Cond.instanceMethod yX6_advance ∈ gw ∧ Cond.selects (yX6_advance).cls yX6_advance yX6_advance ∈ gw := ⟨gin 981 (by decide +kernel) rfl, gin 6 (by decide +kernel) rfl⟩
theorem ll_RX6_55 : Cond.methodLink RX6 55 yX6_advance ∈ gw := gin 979 (by decide +kernel) rfl
theorem lm_X6_numberHere : lkM yX6_numberHere cX6_numberHere 3 (some .int) 0 := ⟨gin 1075 (by decide +kernel) rfl, gin 91 (by decide +kernel) rfl, by decide +kernel⟩
theorem lv_m_X6_numberHere : Cond.instanceMethod yX6_numberHere ∈ gw ∧ Cond.selects (yX6_numberHere).cls yX6_numberHere yX6_numberHere ∈ gw := ⟨gin 1074 (by decide +kernel) rfl, gin 14 (by decide +kernel) rfl⟩
theorem ll_RX6_88 : Cond.methodLink RX6 88 yX6_numberHere ∈ gw := gin 1072 (by decide +kernel) rfl
theorem lf_RX6_30 : FL RX6 30 6 9 := ⟨_, _, _, rfl, rfl, by decide, gin 236 (by decide +kernel) rfl⟩
theorem lm_X7_add : lkM yX7_add cX7_add 2 none 1 := ⟨gin 1079 (by decide +kernel) rfl, gin 93 (by decide +kernel) rfl, by decide +kernel⟩
theorem lv_m_X7_add : Cond.instanceMethod yX7_add ∈ gw ∧ Cond.selects (yX7_add).cls yX7_add yX7_add ∈ gw := ⟨gin 1077 (by decide +kernel) rfl, gin 1078 (by decide +kernel) rfl⟩
theorem ll_RX6_167 : Cond.methodLink RX6 167 yX7_add ∈ gw := gin 1076 (by decide +kernel) rfl
theorem lm_X6_readExpr : lkM yX6_readExpr cX6_readExpr 7 none 2 := ⟨gin 1063 (by decide +kernel) rfl, gin 91 (by decide +kernel) rfl, by decide +kernel⟩
theorem lv_m_X6_readExpr : Cond.instanceMethod yX6_readExpr ∈ gw ∧ Cond.selects (yX6_readExpr).cls yX6_readExpr yX6_readExpr ∈ gw := ⟨gin 1062 (by decide +kernel) rfl, gin 11 (by decide +kernel) rfl⟩
theorem ll_RX6_117 : Cond.methodLink RX6 117 yX6_readExpr ∈ gw := gin 1060 (by decide +kernel) rfl
theorem lm_X6_operatorHere : lkM yX6_operatorHere cX6_operatorHere 2 (some .int) 1 := ⟨gin 1100 (by decide +kernel) rfl, gin 91 (by decide +kernel) rfl, by decide +kernel⟩
theorem lv_m_X6_operatorHere : Cond.instanceMethod yX6_operatorHere ∈ gw ∧ Cond.selects (yX6_operatorHere).cls yX6_operatorHere yX6_operatorHere ∈ gw := ⟨gin 1099 (by decide +kernel) rfl, gin 18 (by decide +kernel) rfl⟩
theorem ll_RX6_164 : Cond.methodLink RX6 164 yX6_operatorHere ∈ gw := gin 1097 (by decide +kernel) rfl
theorem lm_X6_readNots : lkM yX6_readNots cX6_readNots 2 (some .int) 0 := ⟨gin 1095 (by decide +kernel) rfl, gin 91 (by decide +kernel) rfl, by decide +kernel⟩
theorem lv_m_X6_readNots : Cond.instanceMethod yX6_readNots ∈ gw ∧ Cond.selects (yX6_readNots).cls yX6_readNots yX6_readNots ∈ gw := ⟨gin 1094 (by decide +kernel) rfl, gin 17 (by decide +kernel) rfl⟩
theorem ll_RX6_161 : Cond.methodLink RX6 161 yX6_readNots ∈ gw := gin 1092 (by decide +kernel) rfl
theorem lm_X6_readPart : lkM yX6_readPart cX6_readPart 2 none 1 := ⟨gin 1067 (by decide +kernel) rfl, gin 91 (by decide +kernel) rfl, by decide +kernel⟩
theorem lv_m_X6_readPart : Cond.instanceMethod yX6_readPart ∈ gw ∧ Cond.selects (yX6_readPart).cls yX6_readPart yX6_readPart ∈ gw := ⟨gin 1066 (by decide +kernel) rfl, gin 12 (by decide +kernel) rfl⟩
theorem ll_RX6_158 : Cond.methodLink RX6 158 yX6_readPart ∈ gw := gin 1064 (by decide +kernel) rfl
theorem lm_X6_passSign : lkM yX6_passSign cX6_passSign 2 none 1 := ⟨gin 1091 (by decide +kernel) rfl, gin 91 (by decide +kernel) rfl, by decide +kernel⟩
theorem lv_m_X6_passSign : Cond.instanceMethod yX6_passSign ∈ gw ∧ Cond.selects (yX6_passSign).cls yX6_passSign yX6_passSign ∈ gw := ⟨gin 1090 (by decide +kernel) rfl, gin 16 (by decide +kernel) rfl⟩
theorem ll_RX6_124 : Cond.methodLink RX6 124 yX6_passSign ∈ gw := gin 1088 (by decide +kernel) rfl
theorem lm_X6_readValue : lkM yX6_readValue cX6_readValue 1 none 0 := ⟨gin 1083 (by decide +kernel) rfl, gin 91 (by decide +kernel) rfl, by decide +kernel⟩
theorem lv_m_X6_readValue : Cond.instanceMethod yX6_readValue ∈ gw ∧ Cond.selects (yX6_readValue).cls yX6_readValue yX6_readValue ∈ gw := ⟨gin 1082 (by decide +kernel) rfl, gin 15 (by decide +kernel) rfl⟩
theorem ll_RX6_178 : Cond.methodLink RX6 178 yX6_readValue ∈ gw := gin 1080 (by decide +kernel) rfl
theorem lm_X6_passNumber : lkM yX6_passNumber cX6_passNumber 4 (some .int) 2 := ⟨gin 1071 (by decide +kernel) rfl, gin 91 (by decide +kernel) rfl, by decide +kernel⟩
theorem lv_m_X6_passNumber : Cond.instanceMethod yX6_passNumber ∈ gw ∧ Cond.selects (yX6_passNumber).cls yX6_passNumber yX6_passNumber ∈ gw := ⟨gin 1070 (by decide +kernel) rfl, gin 13 (by decide +kernel) rfl⟩
theorem ll_RX6_127 : Cond.methodLink RX6 127 yX6_passNumber ∈ gw := gin 1068 (by decide +kernel) rfl
theorem lf_RX6_153 : FL RX6 153 3 8 := ⟨_, _, _, rfl, rfl, by decide, gin 195 (by decide +kernel) rfl⟩
theorem lp_RX6_155 : FP RX6 155 3 7 .int := ⟨_, _, _, rfl, rfl, by decide, gin 193 (by decide +kernel) rfl, rfl, by decide +kernel⟩
theorem lm_X6_readWord : lkM yX6_readWord cX6_readWord 2 none 0 := ⟨gin 1114 (by decide +kernel) rfl, gin 91 (by decide +kernel) rfl, by decide +kernel⟩
theorem lv_m_X6_readWord : Cond.instanceMethod yX6_readWord ∈ gw ∧ Cond.selects (yX6_readWord).cls yX6_readWord yX6_readWord ∈ gw := ⟨gin 1113 (by decide +kernel) rfl, gin 21 (by decide +kernel) rfl⟩
theorem ll_RX6_150 : Cond.methodLink RX6 150 yX6_readWord ∈ gw := gin 1111 (by decide +kernel) rfl
theorem lp_RX6_131 : FP RX6 131 3 0 .int := ⟨_, _, _, rfl, rfl, by decide, gin 168 (by decide +kernel) rfl, rfl, by decide +kernel⟩
theorem lp_RX6_133 : FP RX6 133 3 1 .int := ⟨_, _, _, rfl, rfl, by decide, gin 171 (by decide +kernel) rfl, rfl, by decide +kernel⟩
theorem lp_RX6_135 : FP RX6 135 3 2 .int := ⟨_, _, _, rfl, rfl, by decide, gin 175 (by decide +kernel) rfl, rfl, by decide +kernel⟩
theorem lp_RX6_138 : FP RX6 138 3 3 .int := ⟨_, _, _, rfl, rfl, by decide, gin 179 (by decide +kernel) rfl, rfl, by decide +kernel⟩
theorem lp_RX6_141 : FP RX6 141 3 4 .int := ⟨_, _, _, rfl, rfl, by decide, gin 183 (by decide +kernel) rfl, rfl, by decide +kernel⟩
theorem lp_RX6_146 : FP RX6 146 3 5 .int := ⟨_, _, _, rfl, rfl, by decide, gin 186 (by decide +kernel) rfl, rfl, by decide +kernel⟩
theorem lm_X6_readOffset : lkM yX6_readOffset cX6_readOffset 1 (some .int) 0 := ⟨gin 1110 (by decide +kernel) rfl, gin 91 (by decide +kernel) rfl, by decide +kernel⟩
theorem lv_m_X6_readOffset : Cond.instanceMethod yX6_readOffset ∈ gw ∧ Cond.selects (yX6_readOffset).cls yX6_readOffset yX6_readOffset ∈ gw := ⟨gin 1109 (by decide +kernel) rfl, gin 20 (by decide +kernel) rfl⟩
theorem ll_RX6_143 : Cond.methodLink RX6 143 yX6_readOffset ∈ gw := gin 1107 (by decide +kernel) rfl
theorem lp_RX6_148 : FP RX6 148 3 6 .int := ⟨_, _, _, rfl, rfl, by decide, gin 190 (by decide +kernel) rfl, rfl, by decide +kernel⟩
theorem lf_RX6_49 : FL RX6 49 6 10 := ⟨_, _, _, rfl, rfl, by decide, gin 237 (by decide +kernel) rfl⟩
theorem lp_RX6_49 : FP RX6 49 6 10 .int := ⟨_, _, _, rfl, rfl, by decide, gin 237 (by decide +kernel) rfl, rfl, by decide +kernel⟩
theorem lp_RX6_30 : FP RX6 30 6 9 (.object "CircuitCells$Rule") := ⟨_, _, _, rfl, rfl, by decide, gin 236 (by decide +kernel) rfl, rfl, by decide +kernel⟩
theorem lf_RX6_115 : FL RX6 115 3 10 := ⟨_, _, _, rfl, rfl, by decide, gin 201 (by decide +kernel) rfl⟩
theorem lf_RX6_26 : FL RX6 26 3 9 := ⟨_, _, _, rfl, rfl, by decide, gin 197 (by decide +kernel) rfl⟩
theorem lm_X6_readSetting : lkM yX6_readSetting cX6_readSetting 2 none 1 := ⟨gin 1106 (by decide +kernel) rfl, gin 91 (by decide +kernel) rfl, by decide +kernel⟩
theorem lv_m_X6_readSetting : Cond.instanceMethod yX6_readSetting ∈ gw ∧ Cond.selects (yX6_readSetting).cls yX6_readSetting yX6_readSetting ∈ gw := ⟨gin 1105 (by decide +kernel) rfl, gin 19 (by decide +kernel) rfl⟩
theorem ll_RX6_121 : Cond.methodLink RX6 121 yX6_readSetting ∈ gw := gin 1103 (by decide +kernel) rfl
theorem lm_X6_clauseHere : lkM yX6_clauseHere cX6_clauseHere 1 (some .int) 0 := ⟨gin 994 (by decide +kernel) rfl, gin 91 (by decide +kernel) rfl, by decide +kernel⟩
theorem lv_m_X6_clauseHere : Cond.instanceMethod yX6_clauseHere ∈ gw ∧ Cond.selects (yX6_clauseHere).cls yX6_clauseHere yX6_clauseHere ∈ gw := ⟨gin 993 (by decide +kernel) rfl, gin 8 (by decide +kernel) rfl⟩
theorem ll_RX6_112 : Cond.methodLink RX6 112 yX6_clauseHere ∈ gw := gin 991 (by decide +kernel) rfl
theorem lp_RX6_40 : FP RX6 40 6 2 .int := ⟨_, _, _, rfl, rfl, by decide, gin 228 (by decide +kernel) rfl, rfl, by decide +kernel⟩
theorem lm_X6_readClause : lkM yX6_readClause cX6_readClause 2 none 0 := ⟨gin 990 (by decide +kernel) rfl, gin 91 (by decide +kernel) rfl, by decide +kernel⟩
theorem lv_m_X6_readClause : Cond.instanceMethod yX6_readClause ∈ gw ∧ Cond.selects (yX6_readClause).cls yX6_readClause yX6_readClause ∈ gw := ⟨gin 989 (by decide +kernel) rfl, gin 7 (by decide +kernel) rfl⟩
theorem ll_RX6_61 : Cond.methodLink RX6 61 yX6_readClause ∈ gw := gin 987 (by decide +kernel) rfl
theorem lm_X3_clear : lkM yX3_clear cX3_clear 1 none 0 := ⟨gin 154 (by decide +kernel) rfl, gin 92 (by decide +kernel) rfl, by decide +kernel⟩
theorem lv_m_X3_clear : Cond.instanceMethod yX3_clear ∈ gw ∧ Cond.selects (yX3_clear).cls yX3_clear yX3_clear ∈ gw := ⟨gin 152 (by decide +kernel) rfl, gin 153 (by decide +kernel) rfl⟩
theorem ll_RX6_52 : Cond.methodLink RX6 52 yX3_clear ∈ gw := gin 978 (by decide +kernel) rfl
def l_X6_addBytes_3 (t : Nat) (x1_ : Int32) (k1 : Int32) (M2 : Mem) : Option ((Int32 × Mem) ⊕ (Unit × Mem)) :=
  if k1 < 0 then (some (.inr ((), M2))) else (bd (f_X10_put (t + 1) 700 (M2.1 t 1) (((x1_.toUInt32 >>> (k1.toUInt32 &&& Int32.toUInt32 31)).toInt32) &&& (255 : Int32)) M2) (fun _ M4 => nm (wi M4 t 1 ((M4.1 t 1) + (1 : Int32))) (fun M5 => nm (k1 + (-8 : Int32)) (fun y6 => some (.inl (y6, M5))))))
def f_X6_addBytes (t : Nat) (x1_ : Int32) (M : Mem) : Option (Unit × Mem) :=
  lop2 FU (l_X6_addBytes_3 t x1_) (24 : Int32) M
set_option maxRecDepth 20000 in
theorem c_X6_addBytes {G : Ctx} (hW : WFG G) {t : Nat} {x1_ : Int32} {M M' : Mem} (h0 : hs G t (0, 6)) (hf : f_X6_addBytes t x1_ M = some ((), M')) : Ct G yX6_addBytes cX6_addBytes 3 none 1 22 [.ref t, .int x1_] M none M' := by
  refine ct_v hW (by decide +kernel) (Nat.le_of_ble_eq_true rfl) (fun w h hr => ?_)
  have h : Rb G cX6_addBytes RX6 3 1 22 w := h
  refine (?_ : E (fun q => q = ((), M')) (f_X6_addBytes t x1_ M) (w M 0 [(0, .ref t), (1, .int x1_)] [])) _ hf rfl
  unfold f_X6_addBytes
  refine E.m (h.bipush (v := (24 : Int32)) dX6_addBytes_0 (by decide)) ?_
  refine E.m (h.istore_n dX6_addBytes_2 (by decide) rfl) ?_
  refine E.m (h.sub [1, 2, 0] rfl) ?_
  refine E.loop2 (fun k1 M2 => w M2 3 [(0, .ref t), (1, .int x1_), (2, .int k1)] []) (fun k1 M2 => ?_) _ _ _
  unfold l_X6_addBytes_3
  refine E.m (h.iload_n 2 dX6_addBytes_3 rfl) ?_
  refine E.br (fun k1 k2 => h.if_lt (tgt := 41) dX6_addBytes_4 (by decide) k1 k2) ?_ ?_
  · exact E.some (ret_v hr dX6_addBytes_41)
  · refine E.m (h.aload_n 0 dX6_addBytes_7 rfl) ?_
    refine E.m (h.get h0 lf_RX6_9 dX6_addBytes_8 fv_6_0) ?_
    refine E.m (h.aload_n 0 dX6_addBytes_11 rfl) ?_
    refine E.m (h.get h0 lf_RX6_33 dX6_addBytes_12 fv_6_1) ?_
    refine E.m (h.iload_n 1 dX6_addBytes_15 rfl) ?_
    refine E.m (h.iload_n 2 dX6_addBytes_16 rfl) ?_
    refine E.m (h.iushr dX6_addBytes_17) ?_
    refine E.m (h.sipush (v := (255 : Int32)) dX6_addBytes_18 (by decide)) ?_
    refine E.m (h.iand dX6_addBytes_21) ?_
    refine E.bnd (fun _ M4 => w M4 25 [(0, .ref t), (1, .int x1_), (2, .int k1)] []) (fun _ M4 hf k => h.callSN (As := [.ref (t + 1), .int (M2.1 t 1), .int (((x1_.toUInt32 >>> (k1.toUInt32 &&& Int32.toUInt32 31)).toInt32) &&& (255 : Int32))]) (rest := []) (c_X10_put hW (hW.clo 16 h0 rfl) hf) lm_X10_put ls_m_X10_put 11 rfl rfl rfl (Nat.le_of_ble_eq_true rfl) (by decide) dX6_addBytes_22 rfl k) (fun _ M4 => ?_)
    refine E.m (h.aload_n 0 dX6_addBytes_25 rfl) ?_
    refine E.m (h.dup dX6_addBytes_26 rfl) ?_
    refine E.m (h.get h0 lf_RX6_33 dX6_addBytes_27 fv_6_1) ?_
    refine E.m (h.iconst (v := (1 : Int32)) dX6_addBytes_30 (by decide)) ?_
    refine E.m (h.iadd dX6_addBytes_31) ?_
    refine E.m (h.puti h0 lp_RX6_33 rfl dX6_addBytes_32) ?_
    refine E.nmM (fun M5 => ?_)
    refine E.m (h.iinc (v := (-8 : Int32)) 2 dX6_addBytes_35 rfl (by decide) (by decide) rfl) ?_
    refine E.nmL (fun y6 => ?_)
    refine E.m (h.goto (tgt := 3) dX6_addBytes_38 (by decide)) ?_
    refine E.m (h.sub [1, 2, 0] rfl) ?_
    exact E.some (fun q => q)
def f_X6_exchange (t : Nat) (r1_ : Nat) (M : Mem) : Option (Nat × Mem) :=
  gdp (M.2.2 1 = t + 2 ∨ M.2.2 1 = t + 10) (nm (wd M 1 r1_) (fun M2 => some (M.2.2 1, M2)))
set_option maxRecDepth 20000 in
theorem c_X6_exchange {G : Ctx} (hW : WFG G) {t : Nat} {r1_ : Nat} {M M' : Mem} {r : Nat} (h0 : hs G t (0, 6)) (h1 : hs G r1_ (0, 3)) (hf : f_X6_exchange t r1_ M = some (r, M')) : Ct G yX6_exchange cX6_exchange 3 (some (.object "CircuitCells$Line")) 0 0 [.ref t, .ref r1_] M (some (.ref r)) M' := by
  refine ct_a hW (by decide +kernel) (Nat.le_of_ble_eq_true rfl) (fun w h hr => ?_)
  have h : Rb G cX6_exchange RX6 3 0 0 w := h
  refine (?_ : E (fun q => q = (r, M')) (f_X6_exchange t r1_ M) (w M 0 [(0, .ref t), (1, .ref r1_)] [])) _ hf rfl
  unfold f_X6_exchange
  refine E.m (h.aload_n 0 dX6_exchange_0 rfl) ?_
  refine E.gd (fun _ k => h.get h0 lf_RX6_22 dX6_exchange_1 fv_6_8 k) (fun hd1 => ?_)
  refine E.m (h.astore_n dX6_exchange_4 (by decide) rfl) ?_
  refine E.m (h.aload_n 1 dX6_exchange_5 rfl) ?_
  refine E.m (h.aload_n 2 dX6_exchange_6 rfl) ?_
  refine E.m (h.putd h0 (by decide) lp_RX6_22 rfl (by decide) (by decide) dX6_exchange_7) ?_
  refine E.nmM (fun M2 => ?_)
  refine E.m (h.aload_n 0 dX6_exchange_10 rfl) ?_
  exact E.some (ret_a hr dX6_exchange_11)
def f_X6_kindOf (x1_ : Int32) (M : Mem) : Option (Int32 × Mem) :=
  jn0 (fun _ => jn0 (fun _ => jn0 (fun _ => some (x1_, M)) (fun J132 => jn0 (fun _ => some ((1 : Int32), M)) (fun J134 => if x1_.toInt < 40 ∨ 61 < x1_.toInt then (J134 ()) else if x1_ = (40 : Int32) then (J132 ()) else if x1_ = (41 : Int32) then (J132 ()) else if x1_ = (42 : Int32) then (J132 ()) else if x1_ = (43 : Int32) then (J132 ()) else if x1_ = (44 : Int32) then (J134 ()) else if x1_ = (45 : Int32) then (J132 ()) else if x1_ = (46 : Int32) then (J134 ()) else if x1_ = (47 : Int32) then (J132 ()) else if x1_ = (48 : Int32) then (J134 ()) else if x1_ = (49 : Int32) then (J134 ()) else if x1_ = (50 : Int32) then (J134 ()) else if x1_ = (51 : Int32) then (J134 ()) else if x1_ = (52 : Int32) then (J134 ()) else if x1_ = (53 : Int32) then (J134 ()) else if x1_ = (54 : Int32) then (J134 ()) else if x1_ = (55 : Int32) then (J134 ()) else if x1_ = (56 : Int32) then (J134 ()) else if x1_ = (57 : Int32) then (J134 ()) else if x1_ = (58 : Int32) then (J134 ()) else if x1_ = (59 : Int32) then (J132 ()) else if x1_ = (60 : Int32) then (J132 ()) else if x1_ = (61 : Int32) then (J132 ()) else none))) (fun J28 => if x1_ < (48 : Int32) then (J28 ()) else (if (57 : Int32) < x1_ then (J28 ()) else (some ((3 : Int32), M))))) (fun J14 => if x1_ < (97 : Int32) then (J14 ()) else (if (122 : Int32) < x1_ then (J14 ()) else (some ((2 : Int32), M))))
set_option maxRecDepth 20000 in
theorem c_X6_kindOf {G : Ctx} (hW : WFG G) {x1_ : Int32} {M M' : Mem} {r : Int32} (hf : f_X6_kindOf x1_ M = some (r, M')) : Ct G yX6_kindOf cX6_kindOf 1 (some .int) 0 0 [.int x1_] M (some (.int r)) M' := by
  refine ct_i hW (by decide +kernel) (Nat.le_of_ble_eq_true rfl) (fun w h hr => ?_)
  have h : Rb G cX6_kindOf RX6 1 0 0 w := h
  refine (?_ : E (fun q => q = (r, M')) (f_X6_kindOf x1_ M) (w M 0 [(0, .int x1_)] [])) _ hf rfl
  unfold f_X6_kindOf
  refine E.m (h.iload_n 0 dX6_kindOf_0 rfl) ?_
  refine E.m (h.bipush (v := (97 : Int32)) dX6_kindOf_1 (by decide)) ?_
  refine E.join0 (fun _ => w M 14 [(0, .int x1_)] []) (fun _ => ?_) (fun J14 hJ14 => ?_)
  · refine E.m (h.iload_n 0 dX6_kindOf_14 rfl) ?_
    refine E.m (h.bipush (v := (48 : Int32)) dX6_kindOf_15 (by decide)) ?_
    refine E.join0 (fun _ => w M 28 [(0, .int x1_)] []) (fun _ => ?_) (fun J28 hJ28 => ?_)
    · refine E.m (h.iload_n 0 dX6_kindOf_28 rfl) ?_
      refine E.join0 (fun _ => w M 132 [(0, .int x1_)] []) (fun _ => ?_) (fun J132 hJ132 => ?_)
      · refine E.m (h.iload_n 0 dX6_kindOf_132 rfl) ?_
        exact E.some (ret_i hr rfl dX6_kindOf_133)
      refine E.join0 (fun _ => w M 134 [(0, .int x1_)] []) (fun _ => ?_) (fun J134 hJ134 => ?_)
      · refine E.m (h.iconst (v := (1 : Int32)) dX6_kindOf_134 (by decide)) ?_
        exact E.some (ret_i hr rfl dX6_kindOf_135)
      refine E.sw (fun hc k => h.tabOut (tgt := 134) dX6_kindOf_29 hc (by decide) k) ?_ (fun hn => ?_)
      · exact hJ134 ()
      refine E.sw (fun hc k => h.tabIn (tgt := 132) dX6_kindOf_29 (by rw [hc]; decide) (by rw [hc]; decide) (by rw [hc]; rfl) (by decide) k) ?_ (fun _ => ?_)
      · exact hJ132 ()
      refine E.sw (fun hc k => h.tabIn (tgt := 132) dX6_kindOf_29 (by rw [hc]; decide) (by rw [hc]; decide) (by rw [hc]; rfl) (by decide) k) ?_ (fun _ => ?_)
      · exact hJ132 ()
      refine E.sw (fun hc k => h.tabIn (tgt := 132) dX6_kindOf_29 (by rw [hc]; decide) (by rw [hc]; decide) (by rw [hc]; rfl) (by decide) k) ?_ (fun _ => ?_)
      · exact hJ132 ()
      refine E.sw (fun hc k => h.tabIn (tgt := 132) dX6_kindOf_29 (by rw [hc]; decide) (by rw [hc]; decide) (by rw [hc]; rfl) (by decide) k) ?_ (fun _ => ?_)
      · exact hJ132 ()
      refine E.sw (fun hc k => h.tabIn (tgt := 134) dX6_kindOf_29 (by rw [hc]; decide) (by rw [hc]; decide) (by rw [hc]; rfl) (by decide) k) ?_ (fun _ => ?_)
      · exact hJ134 ()
      refine E.sw (fun hc k => h.tabIn (tgt := 132) dX6_kindOf_29 (by rw [hc]; decide) (by rw [hc]; decide) (by rw [hc]; rfl) (by decide) k) ?_ (fun _ => ?_)
      · exact hJ132 ()
      refine E.sw (fun hc k => h.tabIn (tgt := 134) dX6_kindOf_29 (by rw [hc]; decide) (by rw [hc]; decide) (by rw [hc]; rfl) (by decide) k) ?_ (fun _ => ?_)
      · exact hJ134 ()
      refine E.sw (fun hc k => h.tabIn (tgt := 132) dX6_kindOf_29 (by rw [hc]; decide) (by rw [hc]; decide) (by rw [hc]; rfl) (by decide) k) ?_ (fun _ => ?_)
      · exact hJ132 ()
      refine E.sw (fun hc k => h.tabIn (tgt := 134) dX6_kindOf_29 (by rw [hc]; decide) (by rw [hc]; decide) (by rw [hc]; rfl) (by decide) k) ?_ (fun _ => ?_)
      · exact hJ134 ()
      refine E.sw (fun hc k => h.tabIn (tgt := 134) dX6_kindOf_29 (by rw [hc]; decide) (by rw [hc]; decide) (by rw [hc]; rfl) (by decide) k) ?_ (fun _ => ?_)
      · exact hJ134 ()
      refine E.sw (fun hc k => h.tabIn (tgt := 134) dX6_kindOf_29 (by rw [hc]; decide) (by rw [hc]; decide) (by rw [hc]; rfl) (by decide) k) ?_ (fun _ => ?_)
      · exact hJ134 ()
      refine E.sw (fun hc k => h.tabIn (tgt := 134) dX6_kindOf_29 (by rw [hc]; decide) (by rw [hc]; decide) (by rw [hc]; rfl) (by decide) k) ?_ (fun _ => ?_)
      · exact hJ134 ()
      refine E.sw (fun hc k => h.tabIn (tgt := 134) dX6_kindOf_29 (by rw [hc]; decide) (by rw [hc]; decide) (by rw [hc]; rfl) (by decide) k) ?_ (fun _ => ?_)
      · exact hJ134 ()
      refine E.sw (fun hc k => h.tabIn (tgt := 134) dX6_kindOf_29 (by rw [hc]; decide) (by rw [hc]; decide) (by rw [hc]; rfl) (by decide) k) ?_ (fun _ => ?_)
      · exact hJ134 ()
      refine E.sw (fun hc k => h.tabIn (tgt := 134) dX6_kindOf_29 (by rw [hc]; decide) (by rw [hc]; decide) (by rw [hc]; rfl) (by decide) k) ?_ (fun _ => ?_)
      · exact hJ134 ()
      refine E.sw (fun hc k => h.tabIn (tgt := 134) dX6_kindOf_29 (by rw [hc]; decide) (by rw [hc]; decide) (by rw [hc]; rfl) (by decide) k) ?_ (fun _ => ?_)
      · exact hJ134 ()
      refine E.sw (fun hc k => h.tabIn (tgt := 134) dX6_kindOf_29 (by rw [hc]; decide) (by rw [hc]; decide) (by rw [hc]; rfl) (by decide) k) ?_ (fun _ => ?_)
      · exact hJ134 ()
      refine E.sw (fun hc k => h.tabIn (tgt := 134) dX6_kindOf_29 (by rw [hc]; decide) (by rw [hc]; decide) (by rw [hc]; rfl) (by decide) k) ?_ (fun _ => ?_)
      · exact hJ134 ()
      refine E.sw (fun hc k => h.tabIn (tgt := 134) dX6_kindOf_29 (by rw [hc]; decide) (by rw [hc]; decide) (by rw [hc]; rfl) (by decide) k) ?_ (fun _ => ?_)
      · exact hJ134 ()
      refine E.sw (fun hc k => h.tabIn (tgt := 132) dX6_kindOf_29 (by rw [hc]; decide) (by rw [hc]; decide) (by rw [hc]; rfl) (by decide) k) ?_ (fun _ => ?_)
      · exact hJ132 ()
      refine E.sw (fun hc k => h.tabIn (tgt := 132) dX6_kindOf_29 (by rw [hc]; decide) (by rw [hc]; decide) (by rw [hc]; rfl) (by decide) k) ?_ (fun _ => ?_)
      · exact hJ132 ()
      refine E.sw (fun hc k => h.tabIn (tgt := 132) dX6_kindOf_29 (by rw [hc]; decide) (by rw [hc]; decide) (by rw [hc]; rfl) (by decide) k) ?_ (fun _ => ?_)
      · exact hJ132 ()
      exact E.none
    refine E.br (fun k1 k2 => h.icmp_lt (tgt := 28) dX6_kindOf_17 (by decide) k1 k2) ?_ ?_
    · exact hJ28 ()
    · refine E.m (h.iload_n 0 dX6_kindOf_20 rfl) ?_
      refine E.m (h.bipush (v := (57 : Int32)) dX6_kindOf_21 (by decide)) ?_
      refine E.br (fun k1 k2 => h.icmp_gt (tgt := 28) dX6_kindOf_23 (by decide) k1 k2) ?_ ?_
      · exact hJ28 ()
      · refine E.m (h.iconst (v := (3 : Int32)) dX6_kindOf_26 (by decide)) ?_
        exact E.some (ret_i hr rfl dX6_kindOf_27)
  refine E.br (fun k1 k2 => h.icmp_lt (tgt := 14) dX6_kindOf_3 (by decide) k1 k2) ?_ ?_
  · exact hJ14 ()
  · refine E.m (h.iload_n 0 dX6_kindOf_6 rfl) ?_
    refine E.m (h.bipush (v := (122 : Int32)) dX6_kindOf_7 (by decide)) ?_
    refine E.br (fun k1 k2 => h.icmp_gt (tgt := 14) dX6_kindOf_9 (by decide) k1 k2) ?_ ?_
    · exact hJ14 ()
    · refine E.m (h.iconst (v := (2 : Int32)) dX6_kindOf_12 (by decide)) ?_
      exact E.some (ret_i hr rfl dX6_kindOf_13)
def l_X6_advance_133 (t : Nat) (J178 : Mem → Option ((Mem) ⊕ (Unit × Mem))) (M11 : Mem) : Option ((Mem) ⊕ ((Mem) ⊕ (Unit × Mem))) :=
  if (M11.1 t 2) ≤ (M11.1 t 3) then (up (J178 M11)) else (bd (f_X10_at (t + 1) 700 (M11.1 t 3) M11) (fun u12 M13 => bd (f_X6_kindOf u12 M13) (fun u14 M15 => if u14 = (M15.1 t 5) then (nm (wi M15 t 3 ((M15.1 t 3) + (1 : Int32))) (fun M16 => some (.inl M16))) else (up (J178 M15)))))
def l_X6_advance_8 (t : Nat) (M1 : Mem) : Option ((Mem) ⊕ (Unit × Mem)) :=
  jn1 (fun M2 => nm (wi M2 t 4 (M2.1 t 3)) (fun M3 => if (M3.1 t 3) < (M3.1 t 2) then (bd (f_X10_at (t + 1) 700 (M3.1 t 3) M3) (fun u4 M5 => bd (f_X6_kindOf u4 M5) (fun u6 M7 => nm (wi M7 t 5 u6) (fun M8 => nm (wi M8 t 3 ((M8.1 t 3) + (1 : Int32))) (fun M9 => jn1 (fun M10 => some (.inr ((), M10))) (fun J178 => jn0 (fun _ => lop1 FU (l_X6_advance_133 t J178) M9) (fun J133 => if (M9.1 t 5) = (2 : Int32) then (J133 ()) else (if (M9.1 t 5) = (3 : Int32) then (J133 ()) else (J178 M9))))))))) else (nm (wi M3 t 5 (0 : Int32)) (fun M17 => some (.inr ((), M17)))))) (fun J64 => if (M1.1 t 2) ≤ (M1.1 t 3) then (J64 M1) else (bd (f_X10_at (t + 1) 700 (M1.1 t 3) M1) (fun u18 M19 => jn1 (fun M20 => nm (wi M20 t 3 ((M20.1 t 3) + (1 : Int32))) (fun M21 => some (.inl M21))) (fun J51 => if u18 = (32 : Int32) then (J51 M19) else (bd (f_X10_at (t + 1) 700 (M19.1 t 3) M19) (fun u22 M23 => if u22 = (10 : Int32) then (J51 M23) else (J64 M23)))))))
def f_X6_advance (t : Nat) (M : Mem) : Option (Unit × Mem) :=
  if (M.1 t 6) = 0 then (lop1 FU (l_X6_advance_8 t) M) else (some ((), M))
set_option maxRecDepth 20000 in
theorem c_X6_advance {G : Ctx} (hW : WFG G) {t : Nat} {M M' : Mem} (h0 : hs G t (0, 6)) (hf : f_X6_advance t M = some ((), M')) : Ct G yX6_advance cX6_advance 1 none 1 21 [.ref t] M none M' := by
  refine ct_v hW (by decide +kernel) (Nat.le_of_ble_eq_true rfl) (fun w h hr => ?_)
  have h : Rb G cX6_advance RX6 1 1 21 w := h
  refine (?_ : E (fun q => q = ((), M')) (f_X6_advance t M) (w M 0 [(0, .ref t)] [])) _ hf rfl
  unfold f_X6_advance
  refine E.m (h.aload_n 0 dX6_advance_0 rfl) ?_
  refine E.m (h.get h0 lf_RX6_46 dX6_advance_1 fv_6_6) ?_
  refine E.br (fun k1 k2 => h.if_eq (tgt := 8) dX6_advance_4 (by decide) k1 k2) ?_ ?_
  · refine E.loop1 (fun M1 => w M1 8 [(0, .ref t)] []) (fun M1 => ?_) _ _
    unfold l_X6_advance_8
    refine E.m (h.aload_n 0 dX6_advance_8 rfl) ?_
    refine E.m (h.get h0 lf_RX6_43 dX6_advance_9 fv_6_3) ?_
    refine E.m (h.aload_n 0 dX6_advance_12 rfl) ?_
    refine E.m (h.get h0 lf_RX6_40 dX6_advance_13 fv_6_2) ?_
    refine E.join1 (fun M2 => w M2 64 [(0, .ref t)] []) (fun M2 => ?_) (fun J64 hJ64 => ?_)
    · refine E.m (h.aload_n 0 dX6_advance_64 rfl) ?_
      refine E.m (h.aload_n 0 dX6_advance_65 rfl) ?_
      refine E.m (h.get h0 lf_RX6_43 dX6_advance_66 fv_6_3) ?_
      refine E.m (h.puti h0 lp_RX6_64 rfl dX6_advance_69) ?_
      refine E.nmM (fun M3 => ?_)
      refine E.m (h.aload_n 0 dX6_advance_72 rfl) ?_
      refine E.m (h.get h0 lf_RX6_43 dX6_advance_73 fv_6_3) ?_
      refine E.m (h.aload_n 0 dX6_advance_76 rfl) ?_
      refine E.m (h.get h0 lf_RX6_40 dX6_advance_77 fv_6_2) ?_
      refine E.br (fun k1 k2 => h.icmp_lt (tgt := 89) dX6_advance_80 (by decide) k1 k2) ?_ ?_
      · refine E.m (h.aload_n 0 dX6_advance_89 rfl) ?_
        refine E.m (h.aload_n 0 dX6_advance_90 rfl) ?_
        refine E.m (h.get h0 lf_RX6_9 dX6_advance_91 fv_6_0) ?_
        refine E.m (h.aload_n 0 dX6_advance_94 rfl) ?_
        refine E.m (h.get h0 lf_RX6_43 dX6_advance_95 fv_6_3) ?_
        refine E.bnd (fun u4 M5 => w M5 101 [(0, .ref t)] [.int u4, .ref t]) (fun u4 M5 hf k => h.callSN (As := [.ref (t + 1), .int (M3.1 t 3)]) (rest := [.ref t]) (c_X10_at hW (hW.clo 16 h0 rfl) hf) lm_X10_at ls_m_X10_at 36 rfl rfl rfl (Nat.le_of_ble_eq_true rfl) (by decide) dX6_advance_98 rfl k) (fun u4 M5 => ?_)
        refine E.bnd (fun u6 M7 => w M7 104 [(0, .ref t)] [.int u6, .ref t]) (fun u6 M7 hf k => h.callS (As := [.int u4]) (rest := [.ref t]) (c_X6_kindOf hW hf) lm_X6_kindOf ls_m_X6_kindOf ll_RX6_71 rfl rfl (Nat.le_of_ble_eq_true rfl) (by decide) dX6_advance_101 rfl k) (fun u6 M7 => ?_)
        refine E.m (h.puti h0 lp_RX6_58 rfl dX6_advance_104) ?_
        refine E.nmM (fun M8 => ?_)
        refine E.m (h.aload_n 0 dX6_advance_107 rfl) ?_
        refine E.m (h.dup dX6_advance_108 rfl) ?_
        refine E.m (h.get h0 lf_RX6_43 dX6_advance_109 fv_6_3) ?_
        refine E.m (h.iconst (v := (1 : Int32)) dX6_advance_112 (by decide)) ?_
        refine E.m (h.iadd dX6_advance_113) ?_
        refine E.m (h.puti h0 lp_RX6_43 rfl dX6_advance_114) ?_
        refine E.nmM (fun M9 => ?_)
        refine E.m (h.aload_n 0 dX6_advance_117 rfl) ?_
        refine E.m (h.get h0 lf_RX6_58 dX6_advance_118 fv_6_5) ?_
        refine E.m (h.iconst (v := (2 : Int32)) dX6_advance_121 (by decide)) ?_
        refine E.join1 (fun M10 => w M10 178 [(0, .ref t)] []) (fun M10 => ?_) (fun J178 hJ178 => ?_)
        · exact E.some (ret_v hr dX6_advance_178)
        refine E.join0 (fun _ => w M9 133 [(0, .ref t)] []) (fun _ => ?_) (fun J133 hJ133 => ?_)
        · refine E.loop1 (fun M11 => w M11 133 [(0, .ref t)] []) (fun M11 => ?_) _ _
          unfold l_X6_advance_133
          refine E.m (h.aload_n 0 dX6_advance_133 rfl) ?_
          refine E.m (h.get h0 lf_RX6_43 dX6_advance_134 fv_6_3) ?_
          refine E.m (h.aload_n 0 dX6_advance_137 rfl) ?_
          refine E.m (h.get h0 lf_RX6_40 dX6_advance_138 fv_6_2) ?_
          refine E.br (fun k1 k2 => h.icmp_ge (tgt := 178) dX6_advance_141 (by decide) k1 k2) ?_ ?_
          · exact E.up (fun _ q => q) (hJ178 _)
          · refine E.m (h.aload_n 0 dX6_advance_144 rfl) ?_
            refine E.m (h.get h0 lf_RX6_9 dX6_advance_145 fv_6_0) ?_
            refine E.m (h.aload_n 0 dX6_advance_148 rfl) ?_
            refine E.m (h.get h0 lf_RX6_43 dX6_advance_149 fv_6_3) ?_
            refine E.bnd (fun u12 M13 => w M13 155 [(0, .ref t)] [.int u12]) (fun u12 M13 hf k => h.callSN (As := [.ref (t + 1), .int (M11.1 t 3)]) (rest := []) (c_X10_at hW (hW.clo 16 h0 rfl) hf) lm_X10_at ls_m_X10_at 36 rfl rfl rfl (Nat.le_of_ble_eq_true rfl) (by decide) dX6_advance_152 rfl k) (fun u12 M13 => ?_)
            refine E.bnd (fun u14 M15 => w M15 158 [(0, .ref t)] [.int u14]) (fun u14 M15 hf k => h.callS (As := [.int u12]) (rest := []) (c_X6_kindOf hW hf) lm_X6_kindOf ls_m_X6_kindOf ll_RX6_71 rfl rfl (Nat.le_of_ble_eq_true rfl) (by decide) dX6_advance_155 rfl k) (fun u14 M15 => ?_)
            refine E.m (h.aload_n 0 dX6_advance_158 rfl) ?_
            refine E.m (h.get h0 lf_RX6_58 dX6_advance_159 fv_6_5) ?_
            refine E.br (fun k1 k2 => h.icmp_ne (tgt := 178) dX6_advance_162 (by decide) k2 k1) ?_ ?_
            · refine E.m (h.aload_n 0 dX6_advance_165 rfl) ?_
              refine E.m (h.dup dX6_advance_166 rfl) ?_
              refine E.m (h.get h0 lf_RX6_43 dX6_advance_167 fv_6_3) ?_
              refine E.m (h.iconst (v := (1 : Int32)) dX6_advance_170 (by decide)) ?_
              refine E.m (h.iadd dX6_advance_171) ?_
              refine E.m (h.puti h0 lp_RX6_43 rfl dX6_advance_172) ?_
              refine E.nmM (fun M16 => ?_)
              refine E.m (h.goto (tgt := 133) dX6_advance_175 (by decide)) ?_
              exact E.some (fun q => q)
            · exact E.up (fun _ q => q) (hJ178 _)
        refine E.br (fun k1 k2 => h.icmp_eq (tgt := 133) dX6_advance_122 (by decide) k1 k2) ?_ ?_
        · exact hJ133 ()
        · refine E.m (h.aload_n 0 dX6_advance_125 rfl) ?_
          refine E.m (h.get h0 lf_RX6_58 dX6_advance_126 fv_6_5) ?_
          refine E.m (h.iconst (v := (3 : Int32)) dX6_advance_129 (by decide)) ?_
          refine E.br (fun k1 k2 => h.icmp_ne (tgt := 178) dX6_advance_130 (by decide) k2 k1) ?_ ?_
          · exact hJ133 ()
          · exact hJ178 _
      · refine E.m (h.aload_n 0 dX6_advance_83 rfl) ?_
        refine E.m (h.iconst (v := (0 : Int32)) dX6_advance_84 (by decide)) ?_
        refine E.m (h.puti h0 lp_RX6_58 rfl dX6_advance_85) ?_
        refine E.nmM (fun M17 => ?_)
        exact E.some (ret_v hr dX6_advance_88)
    refine E.br (fun k1 k2 => h.icmp_ge (tgt := 64) dX6_advance_16 (by decide) k1 k2) ?_ ?_
    · exact hJ64 _
    · refine E.m (h.aload_n 0 dX6_advance_19 rfl) ?_
      refine E.m (h.get h0 lf_RX6_9 dX6_advance_20 fv_6_0) ?_
      refine E.m (h.aload_n 0 dX6_advance_23 rfl) ?_
      refine E.m (h.get h0 lf_RX6_43 dX6_advance_24 fv_6_3) ?_
      refine E.bnd (fun u18 M19 => w M19 30 [(0, .ref t)] [.int u18]) (fun u18 M19 hf k => h.callSN (As := [.ref (t + 1), .int (M1.1 t 3)]) (rest := []) (c_X10_at hW (hW.clo 16 h0 rfl) hf) lm_X10_at ls_m_X10_at 36 rfl rfl rfl (Nat.le_of_ble_eq_true rfl) (by decide) dX6_advance_27 rfl k) (fun u18 M19 => ?_)
      refine E.m (h.bipush (v := (32 : Int32)) dX6_advance_30 (by decide)) ?_
      refine E.join1 (fun M20 => w M20 51 [(0, .ref t)] []) (fun M20 => ?_) (fun J51 hJ51 => ?_)
      · refine E.m (h.aload_n 0 dX6_advance_51 rfl) ?_
        refine E.m (h.dup dX6_advance_52 rfl) ?_
        refine E.m (h.get h0 lf_RX6_43 dX6_advance_53 fv_6_3) ?_
        refine E.m (h.iconst (v := (1 : Int32)) dX6_advance_56 (by decide)) ?_
        refine E.m (h.iadd dX6_advance_57) ?_
        refine E.m (h.puti h0 lp_RX6_43 rfl dX6_advance_58) ?_
        refine E.nmM (fun M21 => ?_)
        refine E.m (h.goto (tgt := 8) dX6_advance_61 (by decide)) ?_
        exact E.some (fun q => q)
      refine E.br (fun k1 k2 => h.icmp_eq (tgt := 51) dX6_advance_32 (by decide) k1 k2) ?_ ?_
      · exact hJ51 _
      · refine E.m (h.aload_n 0 dX6_advance_35 rfl) ?_
        refine E.m (h.get h0 lf_RX6_9 dX6_advance_36 fv_6_0) ?_
        refine E.m (h.aload_n 0 dX6_advance_39 rfl) ?_
        refine E.m (h.get h0 lf_RX6_43 dX6_advance_40 fv_6_3) ?_
        refine E.bnd (fun u22 M23 => w M23 46 [(0, .ref t)] [.int u22]) (fun u22 M23 hf k => h.callSN (As := [.ref (t + 1), .int (M19.1 t 3)]) (rest := []) (c_X10_at hW (hW.clo 16 h0 rfl) hf) lm_X10_at ls_m_X10_at 36 rfl rfl rfl (Nat.le_of_ble_eq_true rfl) (by decide) dX6_advance_43 rfl k) (fun u22 M23 => ?_)
        refine E.m (h.bipush (v := (10 : Int32)) dX6_advance_46 (by decide)) ?_
        refine E.br (fun k1 k2 => h.icmp_ne (tgt := 64) dX6_advance_48 (by decide) k2 k1) ?_ ?_
        · exact hJ51 _
        · exact hJ64 _
  · exact E.some (ret_v hr dX6_advance_7)
def l_X6_isWord_28 (t : Nat) (s1_ : Nat) (k2 : Int32) (M3 : Mem) : Option ((Int32 × Mem) ⊕ (Int32 × Mem)) :=
  if (Int32.ofNat (sLen.getD s1_ 0)) ≤ k2 then (some (.inr ((1 : Int32), M3))) else (bd (f_X10_at (t + 1) 700 ((M3.1 t 4) + k2) M3) (fun u4 M5 => gdi k2 (sLen.getD s1_ 0) (if u4 = ((sByt.getD s1_ []).getD k2.toNatClampNeg 0) then (nm (k2 + (1 : Int32)) (fun y6 => some (.inl (y6, M5)))) else (some (.inr ((0 : Int32), M5))))))
def f_X6_isWord (t : Nat) (s1_ : Nat) (M : Mem) : Option (Int32 × Mem) :=
  jn1 (fun M1 => some ((0 : Int32), M1)) (fun J24 => if (M.1 t 5) = (2 : Int32) then (if ((M.1 t 3) - (M.1 t 4)) = (Int32.ofNat (sLen.getD s1_ 0)) then (lop2 FU (l_X6_isWord_28 t s1_) (0 : Int32) M) else (J24 M)) else (J24 M))
set_option maxRecDepth 20000 in
theorem c_X6_isWord {G : Ctx} (hW : WFG G) {t : Nat} {s1_ : Nat} {M M' : Mem} {r : Int32} (h0 : hs G t (0, 6)) (h1 : s1_ < 32) (hf : f_X6_isWord t s1_ M = some (r, M')) : Ct G yX6_isWord cX6_isWord 3 (some .boolean) 12 400 [.ref t, .ref (gaK G s1_)] M (some (.int r)) M' := by
  refine ct_i hW (by decide +kernel) (Nat.le_of_ble_eq_true rfl) (fun w h hr => ?_)
  have h : Rb G cX6_isWord RX6 3 12 400 w := h
  refine (?_ : E (fun q => q = (r, M')) (f_X6_isWord t s1_ M) (w M 0 [(0, .ref t), (1, .ref (gaK G s1_))] [])) _ hf rfl
  unfold f_X6_isWord
  refine E.m (h.aload_n 0 dX6_isWord_0 rfl) ?_
  refine E.m (h.get h0 lf_RX6_58 dX6_isWord_1 fv_6_5) ?_
  refine E.m (h.iconst (v := (2 : Int32)) dX6_isWord_4 (by decide)) ?_
  refine E.join1 (fun M1 => w M1 24 [(0, .ref t), (1, .ref (gaK G s1_))] []) (fun M1 => ?_) (fun J24 hJ24 => ?_)
  · refine E.m (h.iconst (v := (0 : Int32)) dX6_isWord_24 (by decide)) ?_
    exact E.some (ret_i hr rfl dX6_isWord_25)
  refine E.br (fun k1 k2 => h.icmp_ne (tgt := 24) dX6_isWord_5 (by decide) k2 k1) ?_ ?_
  · refine E.m (h.aload_n 0 dX6_isWord_8 rfl) ?_
    refine E.m (h.get h0 lf_RX6_43 dX6_isWord_9 fv_6_3) ?_
    refine E.m (h.aload_n 0 dX6_isWord_12 rfl) ?_
    refine E.m (h.get h0 lf_RX6_64 dX6_isWord_13 fv_6_4) ?_
    refine E.m (h.isub dX6_isWord_16) ?_
    refine E.m (h.aload_n 1 dX6_isWord_17 rfl) ?_
    refine E.m (h.strLen h1 ll_RX6_75 (Nat.le_of_ble_eq_true rfl) (by decide) dX6_isWord_18) ?_
    refine E.br (fun k1 k2 => h.icmp_eq (tgt := 26) dX6_isWord_21 (by decide) k1 k2) ?_ ?_
    · refine E.m (h.iconst (v := (0 : Int32)) dX6_isWord_26 (by decide)) ?_
      refine E.m (h.istore_n dX6_isWord_27 (by decide) rfl) ?_
      refine E.m (h.sub [1, 2, 0] rfl) ?_
      refine E.loop2 (fun k2 M3 => w M3 28 [(0, .ref t), (1, .ref (gaK G s1_)), (2, .int k2)] []) (fun k2 M3 => ?_) _ _ _
      unfold l_X6_isWord_28
      refine E.m (h.iload_n 2 dX6_isWord_28 rfl) ?_
      refine E.m (h.aload_n 1 dX6_isWord_29 rfl) ?_
      refine E.m (h.strLen h1 ll_RX6_75 (Nat.le_of_ble_eq_true rfl) (by decide) dX6_isWord_30) ?_
      refine E.br (fun k1 k2 => h.icmp_ge (tgt := 65) dX6_isWord_33 (by decide) k1 k2) ?_ ?_
      · refine E.m (h.iconst (v := (1 : Int32)) dX6_isWord_65 (by decide)) ?_
        exact E.some (ret_i hr rfl dX6_isWord_66)
      · refine E.m (h.aload_n 0 dX6_isWord_36 rfl) ?_
        refine E.m (h.get h0 lf_RX6_9 dX6_isWord_37 fv_6_0) ?_
        refine E.m (h.aload_n 0 dX6_isWord_40 rfl) ?_
        refine E.m (h.get h0 lf_RX6_64 dX6_isWord_41 fv_6_4) ?_
        refine E.m (h.iload_n 2 dX6_isWord_44 rfl) ?_
        refine E.m (h.iadd dX6_isWord_45) ?_
        refine E.bnd (fun u4 M5 => w M5 49 [(0, .ref t), (1, .ref (gaK G s1_)), (2, .int k2)] [.int u4]) (fun u4 M5 hf k => h.callSN (As := [.ref (t + 1), .int ((M3.1 t 4) + k2)]) (rest := []) (c_X10_at hW (hW.clo 16 h0 rfl) hf) lm_X10_at ls_m_X10_at 36 rfl rfl rfl (Nat.le_of_ble_eq_true rfl) (by decide) dX6_isWord_46 rfl k) (fun u4 M5 => ?_)
        refine E.m (h.aload_n 1 dX6_isWord_49 rfl) ?_
        refine E.m (h.iload_n 2 dX6_isWord_50 rfl) ?_
        refine E.gi (fun hi k => h.strAt h1 hi ll_RX6_80 (Nat.le_of_ble_eq_true rfl) (by decide) dX6_isWord_51 k) ?_
        refine E.br (fun k1 k2 => h.icmp_eq (tgt := 59) dX6_isWord_54 (by decide) k1 k2) ?_ ?_
        · refine E.m (h.iinc (v := (1 : Int32)) 2 dX6_isWord_59 rfl (by decide) (by decide) rfl) ?_
          refine E.nmL (fun y6 => ?_)
          refine E.m (h.goto (tgt := 28) dX6_isWord_62 (by decide)) ?_
          refine E.m (h.sub [1, 2, 0] rfl) ?_
          exact E.some (fun q => q)
        · refine E.m (h.iconst (v := (0 : Int32)) dX6_isWord_57 (by decide)) ?_
          exact E.some (ret_i hr rfl dX6_isWord_58)
    · exact hJ24 _
  · exact hJ24 _
def f_X6_clauseHere (t : Nat) (M : Mem) : Option (Int32 × Mem) :=
  bd (f_X6_isWord t 20 M) (fun u1 M2 => if u1 = 0 then (bd (f_X6_isWord t 21 M2) (fun u3 M4 => if u3 = 0 then (bd (f_X6_isWord t 22 M4) (fun u5 M6 => if u5 = 0 then (bd (f_X6_isWord t 23 M6) (fun u7 M8 => if u7 = 0 then (bd (f_X6_isWord t 24 M8) (fun u9 M10 => if u9 = 0 then (bd (f_X6_isWord t 25 M10) (fun u11 M12 => if u11 = 0 then (bd (f_X6_isWord t 26 M12) (fun u13 M14 => if u13 = 0 then (bd (f_X6_isWord t 27 M14) (fun u15 M16 => if u15 = 0 then (bd (f_X6_isWord t 28 M16) (fun u17 M18 => jn1 (fun z19 => some (z19, M18)) (fun J105 => if u17 = 0 then (J105 (-1 : Int32)) else (J105 (8 : Int32))))) else (some ((7 : Int32), M16)))) else (some ((6 : Int32), M14)))) else (some ((5 : Int32), M12)))) else (some ((4 : Int32), M10)))) else (some ((3 : Int32), M8)))) else (some ((2 : Int32), M6)))) else (some ((1 : Int32), M4)))) else (some ((0 : Int32), M2)))
set_option maxRecDepth 20000 in
theorem c_X6_clauseHere {G : Ctx} (hW : WFG G) {t : Nat} {M M' : Mem} {r : Int32} (h0 : hs G t (0, 6)) (hf : f_X6_clauseHere t M = some (r, M')) : Ct G yX6_clauseHere cX6_clauseHere 1 (some .int) 13 422 [.ref t] M (some (.int r)) M' := by
  refine ct_i hW (by decide +kernel) (Nat.le_of_ble_eq_true rfl) (fun w h hr => ?_)
  have h : Rb G cX6_clauseHere RX6 1 13 422 w := h
  refine (?_ : E (fun q => q = (r, M')) (f_X6_clauseHere t M) (w M 0 [(0, .ref t)] [])) _ hf rfl
  unfold f_X6_clauseHere
  refine E.m (h.aload_n 0 dX6_clauseHere_0 rfl) ?_
  refine E.m (h.ldcS (i := 20) 1 rfl dX6_clauseHere_1) ?_
  refine E.bnd (fun u1 M2 => w M2 6 [(0, .ref t)] [.int u1]) (fun u1 M2 hf k => h.callV (As := [.ref (gaK G 20)]) (rest := []) (c_X6_isWord hW h0 (by decide) hf) lm_X6_isWord lv_m_X6_isWord ll_RX6_93 h0 lc_6 rfl rfl (Nat.le_of_ble_eq_true rfl) (by decide) dX6_clauseHere_3 rfl k) (fun u1 M2 => ?_)
  refine E.br (fun k1 k2 => h.if_eq (tgt := 11) dX6_clauseHere_6 (by decide) k1 k2) ?_ ?_
  · refine E.m (h.aload_n 0 dX6_clauseHere_11 rfl) ?_
    refine E.m (h.ldcS (i := 21) 2 rfl dX6_clauseHere_12) ?_
    refine E.bnd (fun u3 M4 => w M4 17 [(0, .ref t)] [.int u3]) (fun u3 M4 hf k => h.callV (As := [.ref (gaK G 21)]) (rest := []) (c_X6_isWord hW h0 (by decide) hf) lm_X6_isWord lv_m_X6_isWord ll_RX6_93 h0 lc_6 rfl rfl (Nat.le_of_ble_eq_true rfl) (by decide) dX6_clauseHere_14 rfl k) (fun u3 M4 => ?_)
    refine E.br (fun k1 k2 => h.if_eq (tgt := 22) dX6_clauseHere_17 (by decide) k1 k2) ?_ ?_
    · refine E.m (h.aload_n 0 dX6_clauseHere_22 rfl) ?_
      refine E.m (h.ldcS (i := 22) 3 rfl dX6_clauseHere_23) ?_
      refine E.bnd (fun u5 M6 => w M6 28 [(0, .ref t)] [.int u5]) (fun u5 M6 hf k => h.callV (As := [.ref (gaK G 22)]) (rest := []) (c_X6_isWord hW h0 (by decide) hf) lm_X6_isWord lv_m_X6_isWord ll_RX6_93 h0 lc_6 rfl rfl (Nat.le_of_ble_eq_true rfl) (by decide) dX6_clauseHere_25 rfl k) (fun u5 M6 => ?_)
      refine E.br (fun k1 k2 => h.if_eq (tgt := 33) dX6_clauseHere_28 (by decide) k1 k2) ?_ ?_
      · refine E.m (h.aload_n 0 dX6_clauseHere_33 rfl) ?_
        refine E.m (h.ldcS (i := 23) 4 rfl dX6_clauseHere_34) ?_
        refine E.bnd (fun u7 M8 => w M8 39 [(0, .ref t)] [.int u7]) (fun u7 M8 hf k => h.callV (As := [.ref (gaK G 23)]) (rest := []) (c_X6_isWord hW h0 (by decide) hf) lm_X6_isWord lv_m_X6_isWord ll_RX6_93 h0 lc_6 rfl rfl (Nat.le_of_ble_eq_true rfl) (by decide) dX6_clauseHere_36 rfl k) (fun u7 M8 => ?_)
        refine E.br (fun k1 k2 => h.if_eq (tgt := 44) dX6_clauseHere_39 (by decide) k1 k2) ?_ ?_
        · refine E.m (h.aload_n 0 dX6_clauseHere_44 rfl) ?_
          refine E.m (h.ldcS (i := 24) 5 rfl dX6_clauseHere_45) ?_
          refine E.bnd (fun u9 M10 => w M10 50 [(0, .ref t)] [.int u9]) (fun u9 M10 hf k => h.callV (As := [.ref (gaK G 24)]) (rest := []) (c_X6_isWord hW h0 (by decide) hf) lm_X6_isWord lv_m_X6_isWord ll_RX6_93 h0 lc_6 rfl rfl (Nat.le_of_ble_eq_true rfl) (by decide) dX6_clauseHere_47 rfl k) (fun u9 M10 => ?_)
          refine E.br (fun k1 k2 => h.if_eq (tgt := 55) dX6_clauseHere_50 (by decide) k1 k2) ?_ ?_
          · refine E.m (h.aload_n 0 dX6_clauseHere_55 rfl) ?_
            refine E.m (h.ldcS (i := 25) 6 rfl dX6_clauseHere_56) ?_
            refine E.bnd (fun u11 M12 => w M12 61 [(0, .ref t)] [.int u11]) (fun u11 M12 hf k => h.callV (As := [.ref (gaK G 25)]) (rest := []) (c_X6_isWord hW h0 (by decide) hf) lm_X6_isWord lv_m_X6_isWord ll_RX6_93 h0 lc_6 rfl rfl (Nat.le_of_ble_eq_true rfl) (by decide) dX6_clauseHere_58 rfl k) (fun u11 M12 => ?_)
            refine E.br (fun k1 k2 => h.if_eq (tgt := 66) dX6_clauseHere_61 (by decide) k1 k2) ?_ ?_
            · refine E.m (h.aload_n 0 dX6_clauseHere_66 rfl) ?_
              refine E.m (h.ldcS (i := 26) 7 rfl dX6_clauseHere_67) ?_
              refine E.bnd (fun u13 M14 => w M14 72 [(0, .ref t)] [.int u13]) (fun u13 M14 hf k => h.callV (As := [.ref (gaK G 26)]) (rest := []) (c_X6_isWord hW h0 (by decide) hf) lm_X6_isWord lv_m_X6_isWord ll_RX6_93 h0 lc_6 rfl rfl (Nat.le_of_ble_eq_true rfl) (by decide) dX6_clauseHere_69 rfl k) (fun u13 M14 => ?_)
              refine E.br (fun k1 k2 => h.if_eq (tgt := 78) dX6_clauseHere_72 (by decide) k1 k2) ?_ ?_
              · refine E.m (h.aload_n 0 dX6_clauseHere_78 rfl) ?_
                refine E.m (h.ldcS (i := 27) 8 rfl dX6_clauseHere_79) ?_
                refine E.bnd (fun u15 M16 => w M16 84 [(0, .ref t)] [.int u15]) (fun u15 M16 hf k => h.callV (As := [.ref (gaK G 27)]) (rest := []) (c_X6_isWord hW h0 (by decide) hf) lm_X6_isWord lv_m_X6_isWord ll_RX6_93 h0 lc_6 rfl rfl (Nat.le_of_ble_eq_true rfl) (by decide) dX6_clauseHere_81 rfl k) (fun u15 M16 => ?_)
                refine E.br (fun k1 k2 => h.if_eq (tgt := 90) dX6_clauseHere_84 (by decide) k1 k2) ?_ ?_
                · refine E.m (h.aload_n 0 dX6_clauseHere_90 rfl) ?_
                  refine E.m (h.ldcS (i := 28) 9 rfl dX6_clauseHere_91) ?_
                  refine E.bnd (fun u17 M18 => w M18 96 [(0, .ref t)] [.int u17]) (fun u17 M18 hf k => h.callV (As := [.ref (gaK G 28)]) (rest := []) (c_X6_isWord hW h0 (by decide) hf) lm_X6_isWord lv_m_X6_isWord ll_RX6_93 h0 lc_6 rfl rfl (Nat.le_of_ble_eq_true rfl) (by decide) dX6_clauseHere_93 rfl k) (fun u17 M18 => ?_)
                  refine E.join1 (fun z19 => w M18 105 [(0, .ref t)] [.int z19]) (fun z19 => ?_) (fun J105 hJ105 => ?_)
                  · exact E.some (ret_i hr rfl dX6_clauseHere_105)
                  refine E.br (fun k1 k2 => h.if_eq (tgt := 104) dX6_clauseHere_96 (by decide) k1 k2) ?_ ?_
                  · refine E.m (h.iconst (v := (-1 : Int32)) dX6_clauseHere_104 (by decide)) ?_
                    exact hJ105 _
                  · refine E.m (h.bipush (v := (8 : Int32)) dX6_clauseHere_99 (by decide)) ?_
                    refine E.m (h.goto (tgt := 105) dX6_clauseHere_101 (by decide)) ?_
                    exact hJ105 _
                · refine E.m (h.bipush (v := (7 : Int32)) dX6_clauseHere_87 (by decide)) ?_
                  exact E.some (ret_i hr rfl dX6_clauseHere_89)
              · refine E.m (h.bipush (v := (6 : Int32)) dX6_clauseHere_75 (by decide)) ?_
                exact E.some (ret_i hr rfl dX6_clauseHere_77)
            · refine E.m (h.iconst (v := (5 : Int32)) dX6_clauseHere_64 (by decide)) ?_
              exact E.some (ret_i hr rfl dX6_clauseHere_65)
          · refine E.m (h.iconst (v := (4 : Int32)) dX6_clauseHere_53 (by decide)) ?_
            exact E.some (ret_i hr rfl dX6_clauseHere_54)
        · refine E.m (h.iconst (v := (3 : Int32)) dX6_clauseHere_42 (by decide)) ?_
          exact E.some (ret_i hr rfl dX6_clauseHere_43)
      · refine E.m (h.iconst (v := (2 : Int32)) dX6_clauseHere_31 (by decide)) ?_
        exact E.some (ret_i hr rfl dX6_clauseHere_32)
    · refine E.m (h.iconst (v := (1 : Int32)) dX6_clauseHere_20 (by decide)) ?_
      exact E.some (ret_i hr rfl dX6_clauseHere_21)
  · refine E.m (h.iconst (v := (0 : Int32)) dX6_clauseHere_9 (by decide)) ?_
    exact E.some (ret_i hr rfl dX6_clauseHere_10)
def f_X6_fail (t : Nat) (x1_ : Int32) (M : Mem) : Option (Unit × Mem) :=
  jn1 (fun M1 => nm (wi M1 t 5 (-1 : Int32)) (fun M2 => some ((), M2))) (fun J20 => if (M.1 t 6) = 0 then (nm (wi M t 6 x1_) (fun M3 => nm (wi M3 t 7 (M3.1 t 4)) (fun M4 => J20 M4))) else (J20 M))
set_option maxRecDepth 20000 in
theorem c_X6_fail {G : Ctx} (hW : WFG G) {t : Nat} {x1_ : Int32} {M M' : Mem} (h0 : hs G t (0, 6)) (hf : f_X6_fail t x1_ M = some ((), M')) : Ct G yX6_fail cX6_fail 2 none 0 0 [.ref t, .int x1_] M none M' := by
  refine ct_v hW (by decide +kernel) (Nat.le_of_ble_eq_true rfl) (fun w h hr => ?_)
  have h : Rb G cX6_fail RX6 2 0 0 w := h
  refine (?_ : E (fun q => q = ((), M')) (f_X6_fail t x1_ M) (w M 0 [(0, .ref t), (1, .int x1_)] [])) _ hf rfl
  unfold f_X6_fail
  refine E.m (h.aload_n 0 dX6_fail_0 rfl) ?_
  refine E.m (h.get h0 lf_RX6_46 dX6_fail_1 fv_6_6) ?_
  refine E.join1 (fun M1 => w M1 20 [(0, .ref t), (1, .int x1_)] []) (fun M1 => ?_) (fun J20 hJ20 => ?_)
  · refine E.m (h.aload_n 0 dX6_fail_20 rfl) ?_
    refine E.m (h.iconst (v := (-1 : Int32)) dX6_fail_21 (by decide)) ?_
    refine E.m (h.puti h0 lp_RX6_58 rfl dX6_fail_22) ?_
    refine E.nmM (fun M2 => ?_)
    exact E.some (ret_v hr dX6_fail_25)
  refine E.br (fun k1 k2 => h.if_ne (tgt := 20) dX6_fail_4 (by decide) k2 k1) ?_ ?_
  · refine E.m (h.aload_n 0 dX6_fail_7 rfl) ?_
    refine E.m (h.iload_n 1 dX6_fail_8 rfl) ?_
    refine E.m (h.puti h0 lp_RX6_46 rfl dX6_fail_9) ?_
    refine E.nmM (fun M3 => ?_)
    refine E.m (h.aload_n 0 dX6_fail_12 rfl) ?_
    refine E.m (h.aload_n 0 dX6_fail_13 rfl) ?_
    refine E.m (h.get h0 lf_RX6_64 dX6_fail_14 fv_6_4) ?_
    refine E.m (h.puti h0 lp_RX6_15 rfl dX6_fail_17) ?_
    refine E.nmM (fun M4 => ?_)
    exact hJ20 _
  · exact hJ20 _
def l_X6_numberHere_7 (t : Nat) (k2 : Int32) (k3 : Int32) (M4 : Mem) : Option ((Int32 × Int32 × Mem) ⊕ (Int32 × Mem)) :=
  if (M4.1 t 3) ≤ k3 then (some (.inr (k2, M4))) else (bd (f_X10_at (t + 1) 700 k3 M4) (fun u5 M6 => nm ((((10 : Int32) * k2) + u5) - (48 : Int32)) (fun y7 => nm (k3 + (1 : Int32)) (fun y8 => some (.inl (y7, y8, M6))))))
def f_X6_numberHere (t : Nat) (M : Mem) : Option (Int32 × Mem) :=
  nm (M.1 t 4) (fun y1 => lop3 FU (l_X6_numberHere_7 t) (0 : Int32) y1 M)
set_option maxRecDepth 20000 in
theorem c_X6_numberHere {G : Ctx} (hW : WFG G) {t : Nat} {M M' : Mem} {r : Int32} (h0 : hs G t (0, 6)) (hf : f_X6_numberHere t M = some (r, M')) : Ct G yX6_numberHere cX6_numberHere 3 (some .int) 1 21 [.ref t] M (some (.int r)) M' := by
  refine ct_i hW (by decide +kernel) (Nat.le_of_ble_eq_true rfl) (fun w h hr => ?_)
  have h : Rb G cX6_numberHere RX6 3 1 21 w := h
  refine (?_ : E (fun q => q = (r, M')) (f_X6_numberHere t M) (w M 0 [(0, .ref t)] [])) _ hf rfl
  unfold f_X6_numberHere
  refine E.m (h.iconst (v := (0 : Int32)) dX6_numberHere_0 (by decide)) ?_
  refine E.m (h.istore_n dX6_numberHere_1 (by decide) rfl) ?_
  refine E.m (h.aload_n 1 dX6_numberHere_2 rfl) ?_
  refine E.m (h.get h0 lf_RX6_64 dX6_numberHere_3 fv_6_4) ?_
  refine E.m (h.istore_n dX6_numberHere_6 (by decide) rfl) ?_
  refine E.nmL (fun y1 => ?_)
  refine E.m (h.sub [2, 1, 0] rfl) ?_
  refine E.loop3 (fun k2 k3 M4 => w M4 7 [(0, .ref t), (1, .int k2), (2, .int k3)] []) (fun k2 k3 M4 => ?_) _ _ _ _
  unfold l_X6_numberHere_7
  refine E.m (h.iload_n 2 dX6_numberHere_7 rfl) ?_
  refine E.m (h.aload_n 0 dX6_numberHere_8 rfl) ?_
  refine E.m (h.get h0 lf_RX6_43 dX6_numberHere_9 fv_6_3) ?_
  refine E.br (fun k1 k2 => h.icmp_ge (tgt := 38) dX6_numberHere_12 (by decide) k1 k2) ?_ ?_
  · refine E.m (h.iload_n 1 dX6_numberHere_38 rfl) ?_
    exact E.some (ret_i hr rfl dX6_numberHere_39)
  · refine E.m (h.bipush (v := (10 : Int32)) dX6_numberHere_15 (by decide)) ?_
    refine E.m (h.iload_n 1 dX6_numberHere_17 rfl) ?_
    refine E.m (h.imul dX6_numberHere_18) ?_
    refine E.m (h.aload_n 0 dX6_numberHere_19 rfl) ?_
    refine E.m (h.get h0 lf_RX6_9 dX6_numberHere_20 fv_6_0) ?_
    refine E.m (h.iload_n 2 dX6_numberHere_23 rfl) ?_
    refine E.bnd (fun u5 M6 => w M6 27 [(0, .ref t), (1, .int k2), (2, .int k3)] [.int u5, .int ((10 : Int32) * k2)]) (fun u5 M6 hf k => h.callSN (As := [.ref (t + 1), .int k3]) (rest := [.int ((10 : Int32) * k2)]) (c_X10_at hW (hW.clo 16 h0 rfl) hf) lm_X10_at ls_m_X10_at 36 rfl rfl rfl (Nat.le_of_ble_eq_true rfl) (by decide) dX6_numberHere_24 rfl k) (fun u5 M6 => ?_)
    refine E.m (h.iadd dX6_numberHere_27) ?_
    refine E.m (h.bipush (v := (48 : Int32)) dX6_numberHere_28 (by decide)) ?_
    refine E.m (h.isub dX6_numberHere_30) ?_
    refine E.m (h.istore_n dX6_numberHere_31 (by decide) rfl) ?_
    refine E.nmL (fun y7 => ?_)
    refine E.m (h.iinc (v := (1 : Int32)) 2 dX6_numberHere_32 rfl (by decide) (by decide) rfl) ?_
    refine E.nmL (fun y8 => ?_)
    refine E.m (h.goto (tgt := 7) dX6_numberHere_35 (by decide)) ?_
    refine E.m (h.sub [2, 1, 0] rfl) ?_
    exact E.some (fun q => q)
def f_X6_passNumber (t : Nat) (x1_ : Int32) (x2_ : Int32) (M : Mem) : Option (Int32 × Mem) :=
  if (M.1 t 5) = (3 : Int32) then (jn2 (fun z1 M2 => jn0 (fun _ => bd (f_X6_fail t (2 : Int32) M2) (fun _ M4 => some (x1_, M4))) (fun J49 => if z1 < x1_ then (J49 ()) else (if z1 ≤ x2_ then (bd (f_X6_advance t M2) (fun _ M6 => some (z1, M6))) else (J49 ())))) (fun J38 => if ((M.1 t 3) - (M.1 t 4)) ≤ (4 : Int32) then (bd (f_X6_numberHere t M) (fun u7 M8 => J38 u7 M8)) else (J38 (10000 : Int32) M))) else (bd (f_X6_fail t (1 : Int32) M) (fun _ M10 => some (x1_, M10)))
set_option maxRecDepth 20000 in
theorem c_X6_passNumber {G : Ctx} (hW : WFG G) {t : Nat} {x1_ : Int32} {x2_ : Int32} {M M' : Mem} {r : Int32} (h0 : hs G t (0, 6)) (hf : f_X6_passNumber t x1_ x2_ M = some (r, M')) : Ct G yX6_passNumber cX6_passNumber 4 (some .int) 2 43 [.ref t, .int x1_, .int x2_] M (some (.int r)) M' := by
  refine ct_i hW (by decide +kernel) (Nat.le_of_ble_eq_true rfl) (fun w h hr => ?_)
  have h : Rb G cX6_passNumber RX6 4 2 43 w := h
  refine (?_ : E (fun q => q = (r, M')) (f_X6_passNumber t x1_ x2_ M) (w M 0 [(0, .ref t), (1, .int x1_), (2, .int x2_)] [])) _ hf rfl
  unfold f_X6_passNumber
  refine E.m (h.aload_n 0 dX6_passNumber_0 rfl) ?_
  refine E.m (h.get h0 lf_RX6_58 dX6_passNumber_1 fv_6_5) ?_
  refine E.m (h.iconst (v := (3 : Int32)) dX6_passNumber_4 (by decide)) ?_
  refine E.br (fun k1 k2 => h.icmp_eq (tgt := 15) dX6_passNumber_5 (by decide) k1 k2) ?_ ?_
  · refine E.m (h.aload_n 0 dX6_passNumber_15 rfl) ?_
    refine E.m (h.get h0 lf_RX6_43 dX6_passNumber_16 fv_6_3) ?_
    refine E.m (h.aload_n 0 dX6_passNumber_19 rfl) ?_
    refine E.m (h.get h0 lf_RX6_64 dX6_passNumber_20 fv_6_4) ?_
    refine E.m (h.isub dX6_passNumber_23) ?_
    refine E.m (h.iconst (v := (4 : Int32)) dX6_passNumber_24 (by decide)) ?_
    refine E.join2 (fun z1 M2 => w M2 38 [(0, .ref t), (1, .int x1_), (2, .int x2_)] [.int z1]) (fun z1 M2 => ?_) (fun J38 hJ38 => ?_)
    · refine E.m (h.istore_n dX6_passNumber_38 (by decide) rfl) ?_
      refine E.m (h.iload_n 0 dX6_passNumber_39 rfl) ?_
      refine E.m (h.iload_n 2 dX6_passNumber_40 rfl) ?_
      refine E.join0 (fun _ => w M2 49 [(0, .ref t), (1, .int x1_), (2, .int x2_), (3, .int z1)] []) (fun _ => ?_) (fun J49 hJ49 => ?_)
      · refine E.m (h.aload_n 0 dX6_passNumber_49 rfl) ?_
        refine E.m (h.iconst (v := (2 : Int32)) dX6_passNumber_50 (by decide)) ?_
        refine E.bnd (fun _ M4 => w M4 54 [(0, .ref t), (1, .int x1_), (2, .int x2_), (3, .int z1)] []) (fun _ M4 hf k => h.callV (As := [.int (2 : Int32)]) (rest := []) (c_X6_fail hW h0 hf) lm_X6_fail lv_m_X6_fail ll_RX6_84 h0 lc_6 rfl rfl (Nat.le_of_ble_eq_true rfl) (by decide) dX6_passNumber_51 rfl k) (fun _ M4 => ?_)
        refine E.m (h.iload_n 1 dX6_passNumber_54 rfl) ?_
        exact E.some (ret_i hr rfl dX6_passNumber_55)
      refine E.br (fun k1 k2 => h.icmp_lt (tgt := 49) dX6_passNumber_41 (by decide) k1 k2) ?_ ?_
      · refine E.m (h.sub [1, 2, 3, 0] rfl) ?_
        exact hJ49 ()
      · refine E.m (h.iload_n 0 dX6_passNumber_44 rfl) ?_
        refine E.m (h.iload_n 3 dX6_passNumber_45 rfl) ?_
        refine E.br (fun k1 k2 => h.icmp_le (tgt := 56) dX6_passNumber_46 (by decide) k1 k2) ?_ ?_
        · refine E.m (h.aload_n 1 dX6_passNumber_56 rfl) ?_
          refine E.bnd (fun _ M6 => w M6 60 [(3, .int z1), (0, .ref t), (1, .int x1_), (2, .int x2_)] []) (fun _ M6 hf k => h.callV (As := []) (rest := []) (c_X6_advance hW h0 hf) lm_X6_advance lv_m_X6_advance ll_RX6_55 h0 lc_6 rfl rfl (Nat.le_of_ble_eq_true rfl) (by decide) dX6_passNumber_57 rfl k) (fun _ M6 => ?_)
          refine E.m (h.iload_n 0 dX6_passNumber_60 rfl) ?_
          exact E.some (ret_i hr rfl dX6_passNumber_61)
        · refine E.m (h.sub [1, 2, 3, 0] rfl) ?_
          exact hJ49 ()
    refine E.br (fun k1 k2 => h.icmp_le (tgt := 34) dX6_passNumber_25 (by decide) k1 k2) ?_ ?_
    · refine E.m (h.aload_n 0 dX6_passNumber_34 rfl) ?_
      refine E.bnd (fun u7 M8 => w M8 38 [(0, .ref t), (1, .int x1_), (2, .int x2_)] [.int u7]) (fun u7 M8 hf k => h.callV (As := []) (rest := []) (c_X6_numberHere hW h0 hf) lm_X6_numberHere lv_m_X6_numberHere ll_RX6_88 h0 lc_6 rfl rfl (Nat.le_of_ble_eq_true rfl) (by decide) dX6_passNumber_35 rfl k) (fun u7 M8 => ?_)
      exact hJ38 _ _
    · refine E.m (h.sipush (v := (10000 : Int32)) dX6_passNumber_28 (by decide)) ?_
      refine E.m (h.goto (tgt := 38) dX6_passNumber_31 (by decide)) ?_
      exact hJ38 _ _
  · refine E.m (h.aload_n 0 dX6_passNumber_8 rfl) ?_
    refine E.m (h.iconst (v := (1 : Int32)) dX6_passNumber_9 (by decide)) ?_
    refine E.bnd (fun _ M10 => w M10 13 [(0, .ref t), (1, .int x1_), (2, .int x2_)] []) (fun _ M10 hf k => h.callV (As := [.int (1 : Int32)]) (rest := []) (c_X6_fail hW h0 hf) lm_X6_fail lv_m_X6_fail ll_RX6_84 h0 lc_6 rfl rfl (Nat.le_of_ble_eq_true rfl) (by decide) dX6_passNumber_10 rfl k) (fun _ M10 => ?_)
    refine E.m (h.iload_n 1 dX6_passNumber_13 rfl) ?_
    exact E.some (ret_i hr rfl dX6_passNumber_14)
def f_X6_readValue (t : Nat) (M : Mem) : Option (Unit × Mem) :=
  bd (f_X6_isWord t 16 M) (fun u1 M2 => jn1 (fun M3 => bd (f_X6_advance t M3) (fun _ M5 => some ((), M5))) (fun J88 => if u1 = 0 then (bd (f_X6_isWord t 17 M2) (fun u6 M7 => if u6 = 0 then (bd (f_X6_isWord t 18 M7) (fun u8 M9 => if u8 = 0 then (bd (f_X6_isWord t 19 M9) (fun u10 M11 => if u10 = 0 then (bd (f_X6_fail t (3 : Int32) M11) (fun _ M13 => J88 M13)) else (gdp (M11.2.2 2 = t + 4 ∨ M11.2.2 2 = t + 7 ∨ M11.2.2 2 = t + 12 ∨ M11.2.2 2 = t + 15) (bd (f_X7_add (M11.2.2 2) (-4 : Int32) M11) (fun _ M16 => J88 M16))))) else (gdp (M9.2.2 2 = t + 4 ∨ M9.2.2 2 = t + 7 ∨ M9.2.2 2 = t + 12 ∨ M9.2.2 2 = t + 15) (bd (f_X7_add (M9.2.2 2) (-3 : Int32) M9) (fun _ M19 => J88 M19))))) else (gdp (M7.2.2 2 = t + 4 ∨ M7.2.2 2 = t + 7 ∨ M7.2.2 2 = t + 12 ∨ M7.2.2 2 = t + 15) (bd (f_X7_add (M7.2.2 2) (-2 : Int32) M7) (fun _ M22 => J88 M22))))) else (gdp (M2.2.2 2 = t + 4 ∨ M2.2.2 2 = t + 7 ∨ M2.2.2 2 = t + 12 ∨ M2.2.2 2 = t + 15) (bd (f_X7_add (M2.2.2 2) (-1 : Int32) M2) (fun _ M25 => J88 M25)))))
set_option maxRecDepth 20000 in
theorem c_X6_readValue {G : Ctx} (hW : WFG G) {t : Nat} {M M' : Mem} (h0 : hs G t (0, 6)) (hf : f_X6_readValue t M = some ((), M')) : Ct G yX6_readValue cX6_readValue 1 none 13 422 [.ref t] M none M' := by
  refine ct_v hW (by decide +kernel) (Nat.le_of_ble_eq_true rfl) (fun w h hr => ?_)
  have h : Rb G cX6_readValue RX6 1 13 422 w := h
  refine (?_ : E (fun q => q = ((), M')) (f_X6_readValue t M) (w M 0 [(0, .ref t)] [])) _ hf rfl
  unfold f_X6_readValue
  refine E.m (h.aload_n 0 dX6_readValue_0 rfl) ?_
  refine E.m (h.ldcS (i := 16) 10 rfl dX6_readValue_1) ?_
  refine E.bnd (fun u1 M2 => w M2 6 [(0, .ref t)] [.int u1]) (fun u1 M2 hf k => h.callV (As := [.ref (gaK G 16)]) (rest := []) (c_X6_isWord hW h0 (by decide) hf) lm_X6_isWord lv_m_X6_isWord ll_RX6_93 h0 lc_6 rfl rfl (Nat.le_of_ble_eq_true rfl) (by decide) dX6_readValue_3 rfl k) (fun u1 M2 => ?_)
  refine E.join1 (fun M3 => w M3 88 [(0, .ref t)] []) (fun M3 => ?_) (fun J88 hJ88 => ?_)
  · refine E.m (h.aload_n 0 dX6_readValue_88 rfl) ?_
    refine E.bnd (fun _ M5 => w M5 92 [(0, .ref t)] []) (fun _ M5 hf k => h.callV (As := []) (rest := []) (c_X6_advance hW h0 hf) lm_X6_advance lv_m_X6_advance ll_RX6_55 h0 lc_6 rfl rfl (Nat.le_of_ble_eq_true rfl) (by decide) dX6_readValue_89 rfl k) (fun _ M5 => ?_)
    exact E.some (ret_v hr dX6_readValue_92)
  refine E.br (fun k1 k2 => h.if_eq (tgt := 20) dX6_readValue_6 (by decide) k1 k2) ?_ ?_
  · refine E.m (h.aload_n 0 dX6_readValue_20 rfl) ?_
    refine E.m (h.ldcS (i := 17) 11 rfl dX6_readValue_21) ?_
    refine E.bnd (fun u6 M7 => w M7 26 [(0, .ref t)] [.int u6]) (fun u6 M7 hf k => h.callV (As := [.ref (gaK G 17)]) (rest := []) (c_X6_isWord hW h0 (by decide) hf) lm_X6_isWord lv_m_X6_isWord ll_RX6_93 h0 lc_6 rfl rfl (Nat.le_of_ble_eq_true rfl) (by decide) dX6_readValue_23 rfl k) (fun u6 M7 => ?_)
    refine E.br (fun k1 k2 => h.if_eq (tgt := 41) dX6_readValue_26 (by decide) k1 k2) ?_ ?_
    · refine E.m (h.aload_n 0 dX6_readValue_41 rfl) ?_
      refine E.m (h.ldcS (i := 18) 12 rfl dX6_readValue_42) ?_
      refine E.bnd (fun u8 M9 => w M9 47 [(0, .ref t)] [.int u8]) (fun u8 M9 hf k => h.callV (As := [.ref (gaK G 18)]) (rest := []) (c_X6_isWord hW h0 (by decide) hf) lm_X6_isWord lv_m_X6_isWord ll_RX6_93 h0 lc_6 rfl rfl (Nat.le_of_ble_eq_true rfl) (by decide) dX6_readValue_44 rfl k) (fun u8 M9 => ?_)
      refine E.br (fun k1 k2 => h.if_eq (tgt := 62) dX6_readValue_47 (by decide) k1 k2) ?_ ?_
      · refine E.m (h.aload_n 0 dX6_readValue_62 rfl) ?_
        refine E.m (h.ldcS (i := 19) 13 rfl dX6_readValue_63) ?_
        refine E.bnd (fun u10 M11 => w M11 68 [(0, .ref t)] [.int u10]) (fun u10 M11 hf k => h.callV (As := [.ref (gaK G 19)]) (rest := []) (c_X6_isWord hW h0 (by decide) hf) lm_X6_isWord lv_m_X6_isWord ll_RX6_93 h0 lc_6 rfl rfl (Nat.le_of_ble_eq_true rfl) (by decide) dX6_readValue_65 rfl k) (fun u10 M11 => ?_)
        refine E.br (fun k1 k2 => h.if_eq (tgt := 83) dX6_readValue_68 (by decide) k1 k2) ?_ ?_
        · refine E.m (h.aload_n 0 dX6_readValue_83 rfl) ?_
          refine E.m (h.iconst (v := (3 : Int32)) dX6_readValue_84 (by decide)) ?_
          refine E.bnd (fun _ M13 => w M13 88 [(0, .ref t)] []) (fun _ M13 hf k => h.callV (As := [.int (3 : Int32)]) (rest := []) (c_X6_fail hW h0 hf) lm_X6_fail lv_m_X6_fail ll_RX6_84 h0 lc_6 rfl rfl (Nat.le_of_ble_eq_true rfl) (by decide) dX6_readValue_85 rfl k) (fun _ M13 => ?_)
          exact hJ88 _
        · refine E.m (h.aload_n 0 dX6_readValue_71 rfl) ?_
          refine E.gd (fun _ k => h.get h0 lf_RX6_30 dX6_readValue_72 fv_6_9 k) (fun hd14 => ?_)
          refine E.m (h.bipush (v := (-4 : Int32)) dX6_readValue_75 (by decide)) ?_
          refine E.bnd (fun _ M16 => w M16 80 [(0, .ref t)] []) (fun _ M16 hf k => h.callV (As := [.int (-4 : Int32)]) (rest := []) (c_X7_add hW (hs4 hd14 (hW.clo 19 h0 rfl) (hW.clo 20 h0 rfl) (hW.clo 21 h0 rfl) (hW.clo 22 h0 rfl)) hf) lm_X7_add lv_m_X7_add ll_RX6_167 (hs4 hd14 (hW.clo 19 h0 rfl) (hW.clo 20 h0 rfl) (hW.clo 21 h0 rfl) (hW.clo 22 h0 rfl)) lc_7 rfl rfl (Nat.le_of_ble_eq_true rfl) (by decide) dX6_readValue_77 rfl k) (fun _ M16 => ?_)
          refine E.m (h.goto (tgt := 88) dX6_readValue_80 (by decide)) ?_
          exact hJ88 _
      · refine E.m (h.aload_n 0 dX6_readValue_50 rfl) ?_
        refine E.gd (fun _ k => h.get h0 lf_RX6_30 dX6_readValue_51 fv_6_9 k) (fun hd17 => ?_)
        refine E.m (h.bipush (v := (-3 : Int32)) dX6_readValue_54 (by decide)) ?_
        refine E.bnd (fun _ M19 => w M19 59 [(0, .ref t)] []) (fun _ M19 hf k => h.callV (As := [.int (-3 : Int32)]) (rest := []) (c_X7_add hW (hs4 hd17 (hW.clo 19 h0 rfl) (hW.clo 20 h0 rfl) (hW.clo 21 h0 rfl) (hW.clo 22 h0 rfl)) hf) lm_X7_add lv_m_X7_add ll_RX6_167 (hs4 hd17 (hW.clo 19 h0 rfl) (hW.clo 20 h0 rfl) (hW.clo 21 h0 rfl) (hW.clo 22 h0 rfl)) lc_7 rfl rfl (Nat.le_of_ble_eq_true rfl) (by decide) dX6_readValue_56 rfl k) (fun _ M19 => ?_)
        refine E.m (h.goto (tgt := 88) dX6_readValue_59 (by decide)) ?_
        exact hJ88 _
    · refine E.m (h.aload_n 0 dX6_readValue_29 rfl) ?_
      refine E.gd (fun _ k => h.get h0 lf_RX6_30 dX6_readValue_30 fv_6_9 k) (fun hd20 => ?_)
      refine E.m (h.bipush (v := (-2 : Int32)) dX6_readValue_33 (by decide)) ?_
      refine E.bnd (fun _ M22 => w M22 38 [(0, .ref t)] []) (fun _ M22 hf k => h.callV (As := [.int (-2 : Int32)]) (rest := []) (c_X7_add hW (hs4 hd20 (hW.clo 19 h0 rfl) (hW.clo 20 h0 rfl) (hW.clo 21 h0 rfl) (hW.clo 22 h0 rfl)) hf) lm_X7_add lv_m_X7_add ll_RX6_167 (hs4 hd20 (hW.clo 19 h0 rfl) (hW.clo 20 h0 rfl) (hW.clo 21 h0 rfl) (hW.clo 22 h0 rfl)) lc_7 rfl rfl (Nat.le_of_ble_eq_true rfl) (by decide) dX6_readValue_35 rfl k) (fun _ M22 => ?_)
      refine E.m (h.goto (tgt := 88) dX6_readValue_38 (by decide)) ?_
      exact hJ88 _
  · refine E.m (h.aload_n 0 dX6_readValue_9 rfl) ?_
    refine E.gd (fun _ k => h.get h0 lf_RX6_30 dX6_readValue_10 fv_6_9 k) (fun hd23 => ?_)
    refine E.m (h.iconst (v := (-1 : Int32)) dX6_readValue_13 (by decide)) ?_
    refine E.bnd (fun _ M25 => w M25 17 [(0, .ref t)] []) (fun _ M25 hf k => h.callV (As := [.int (-1 : Int32)]) (rest := []) (c_X7_add hW (hs4 hd23 (hW.clo 19 h0 rfl) (hW.clo 20 h0 rfl) (hW.clo 21 h0 rfl) (hW.clo 22 h0 rfl)) hf) lm_X7_add lv_m_X7_add ll_RX6_167 (hs4 hd23 (hW.clo 19 h0 rfl) (hW.clo 20 h0 rfl) (hW.clo 21 h0 rfl) (hW.clo 22 h0 rfl)) lc_7 rfl rfl (Nat.le_of_ble_eq_true rfl) (by decide) dX6_readValue_14 rfl k) (fun _ M25 => ?_)
    refine E.m (h.goto (tgt := 88) dX6_readValue_17 (by decide)) ?_
    exact hJ88 _
def f_X6_passSign (t : Nat) (x1_ : Int32) (M : Mem) : Option (Unit × Mem) :=
  jn1 (fun M1 => some ((), M1)) (fun J20 => if (M.1 t 5) = x1_ then (bd (f_X6_advance t M) (fun _ M5 => J20 M5)) else (bd (f_X6_fail t (1 : Int32) M) (fun _ M3 => J20 M3)))
set_option maxRecDepth 20000 in
theorem c_X6_passSign {G : Ctx} (hW : WFG G) {t : Nat} {x1_ : Int32} {M M' : Mem} (h0 : hs G t (0, 6)) (hf : f_X6_passSign t x1_ M = some ((), M')) : Ct G yX6_passSign cX6_passSign 2 none 2 41 [.ref t, .int x1_] M none M' := by
  refine ct_v hW (by decide +kernel) (Nat.le_of_ble_eq_true rfl) (fun w h hr => ?_)
  have h : Rb G cX6_passSign RX6 2 2 41 w := h
  refine (?_ : E (fun q => q = ((), M')) (f_X6_passSign t x1_ M) (w M 0 [(0, .ref t), (1, .int x1_)] [])) _ hf rfl
  unfold f_X6_passSign
  refine E.m (h.aload_n 0 dX6_passSign_0 rfl) ?_
  refine E.m (h.get h0 lf_RX6_58 dX6_passSign_1 fv_6_5) ?_
  refine E.m (h.iload_n 1 dX6_passSign_4 rfl) ?_
  refine E.join1 (fun M1 => w M1 20 [(0, .ref t), (1, .int x1_)] []) (fun M1 => ?_) (fun J20 hJ20 => ?_)
  · exact E.some (ret_v hr dX6_passSign_20)
  refine E.br (fun k1 k2 => h.icmp_ne (tgt := 15) dX6_passSign_5 (by decide) k2 k1) ?_ ?_
  · refine E.m (h.aload_n 0 dX6_passSign_8 rfl) ?_
    refine E.bnd (fun _ M5 => w M5 12 [(0, .ref t), (1, .int x1_)] []) (fun _ M5 hf k => h.callV (As := []) (rest := []) (c_X6_advance hW h0 hf) lm_X6_advance lv_m_X6_advance ll_RX6_55 h0 lc_6 rfl rfl (Nat.le_of_ble_eq_true rfl) (by decide) dX6_passSign_9 rfl k) (fun _ M5 => ?_)
    refine E.m (h.goto (tgt := 20) dX6_passSign_12 (by decide)) ?_
    exact hJ20 _
  · refine E.m (h.aload_n 0 dX6_passSign_15 rfl) ?_
    refine E.m (h.iconst (v := (1 : Int32)) dX6_passSign_16 (by decide)) ?_
    refine E.bnd (fun _ M3 => w M3 20 [(0, .ref t), (1, .int x1_)] []) (fun _ M3 hf k => h.callV (As := [.int (1 : Int32)]) (rest := []) (c_X6_fail hW h0 hf) lm_X6_fail lv_m_X6_fail ll_RX6_84 h0 lc_6 rfl rfl (Nat.le_of_ble_eq_true rfl) (by decide) dX6_passSign_17 rfl k) (fun _ M3 => ?_)
    exact hJ20 _
def l_X6_readNots_2 (t : Nat) (k1 : Int32) (M2 : Mem) : Option ((Int32 × Mem) ⊕ (Int32 × Mem)) :=
  jn1 (fun M3 => bd (f_X6_isWord t 31 M3) (fun u4 M5 => jn1 (fun M6 => some (.inr (k1, M6))) (fun J41 => if u4 = 0 then (J41 M5) else (bd (f_X6_fail t (2 : Int32) M5) (fun _ M8 => J41 M8))))) (fun J27 => if (6 : Int32) ≤ k1 then (J27 M2) else (bd (f_X6_isWord t 31 M2) (fun u9 M10 => if u9 = 0 then (J27 M10) else (bd (f_X6_advance t M10) (fun _ M12 => nm (k1 + (1 : Int32)) (fun y13 => some (.inl (y13, M12))))))))
def f_X6_readNots (t : Nat) (M : Mem) : Option (Int32 × Mem) :=
  lop2 FU (l_X6_readNots_2 t) (0 : Int32) M
set_option maxRecDepth 20000 in
theorem c_X6_readNots {G : Ctx} (hW : WFG G) {t : Nat} {M M' : Mem} {r : Int32} (h0 : hs G t (0, 6)) (hf : f_X6_readNots t M = some (r, M')) : Ct G yX6_readNots cX6_readNots 2 (some .int) 13 422 [.ref t] M (some (.int r)) M' := by
  refine ct_i hW (by decide +kernel) (Nat.le_of_ble_eq_true rfl) (fun w h hr => ?_)
  have h : Rb G cX6_readNots RX6 2 13 422 w := h
  refine (?_ : E (fun q => q = (r, M')) (f_X6_readNots t M) (w M 0 [(0, .ref t)] [])) _ hf rfl
  unfold f_X6_readNots
  refine E.m (h.iconst (v := (0 : Int32)) dX6_readNots_0 (by decide)) ?_
  refine E.m (h.istore_n dX6_readNots_1 (by decide) rfl) ?_
  refine E.m (h.sub [1, 0] rfl) ?_
  refine E.loop2 (fun k1 M2 => w M2 2 [(0, .ref t), (1, .int k1)] []) (fun k1 M2 => ?_) _ _ _
  unfold l_X6_readNots_2
  refine E.m (h.iload_n 1 dX6_readNots_2 rfl) ?_
  refine E.m (h.bipush (v := (6 : Int32)) dX6_readNots_3 (by decide)) ?_
  refine E.join1 (fun M3 => w M3 27 [(0, .ref t), (1, .int k1)] []) (fun M3 => ?_) (fun J27 hJ27 => ?_)
  · refine E.m (h.aload_n 0 dX6_readNots_27 rfl) ?_
    refine E.m (h.ldcS (i := 31) 14 rfl dX6_readNots_28) ?_
    refine E.bnd (fun u4 M5 => w M5 33 [(0, .ref t), (1, .int k1)] [.int u4]) (fun u4 M5 hf k => h.callV (As := [.ref (gaK G 31)]) (rest := []) (c_X6_isWord hW h0 (by decide) hf) lm_X6_isWord lv_m_X6_isWord ll_RX6_93 h0 lc_6 rfl rfl (Nat.le_of_ble_eq_true rfl) (by decide) dX6_readNots_30 rfl k) (fun u4 M5 => ?_)
    refine E.join1 (fun M6 => w M6 41 [(0, .ref t), (1, .int k1)] []) (fun M6 => ?_) (fun J41 hJ41 => ?_)
    · refine E.m (h.iload_n 1 dX6_readNots_41 rfl) ?_
      exact E.some (ret_i hr rfl dX6_readNots_42)
    refine E.br (fun k1 k2 => h.if_eq (tgt := 41) dX6_readNots_33 (by decide) k1 k2) ?_ ?_
    · exact hJ41 _
    · refine E.m (h.aload_n 0 dX6_readNots_36 rfl) ?_
      refine E.m (h.iconst (v := (2 : Int32)) dX6_readNots_37 (by decide)) ?_
      refine E.bnd (fun _ M8 => w M8 41 [(0, .ref t), (1, .int k1)] []) (fun _ M8 hf k => h.callV (As := [.int (2 : Int32)]) (rest := []) (c_X6_fail hW h0 hf) lm_X6_fail lv_m_X6_fail ll_RX6_84 h0 lc_6 rfl rfl (Nat.le_of_ble_eq_true rfl) (by decide) dX6_readNots_38 rfl k) (fun _ M8 => ?_)
      exact hJ41 _
  refine E.br (fun k1 k2 => h.icmp_ge (tgt := 27) dX6_readNots_5 (by decide) k1 k2) ?_ ?_
  · exact hJ27 _
  · refine E.m (h.aload_n 0 dX6_readNots_8 rfl) ?_
    refine E.m (h.ldcS (i := 31) 14 rfl dX6_readNots_9) ?_
    refine E.bnd (fun u9 M10 => w M10 14 [(0, .ref t), (1, .int k1)] [.int u9]) (fun u9 M10 hf k => h.callV (As := [.ref (gaK G 31)]) (rest := []) (c_X6_isWord hW h0 (by decide) hf) lm_X6_isWord lv_m_X6_isWord ll_RX6_93 h0 lc_6 rfl rfl (Nat.le_of_ble_eq_true rfl) (by decide) dX6_readNots_11 rfl k) (fun u9 M10 => ?_)
    refine E.br (fun k1 k2 => h.if_eq (tgt := 27) dX6_readNots_14 (by decide) k1 k2) ?_ ?_
    · exact hJ27 _
    · refine E.m (h.aload_n 0 dX6_readNots_17 rfl) ?_
      refine E.bnd (fun _ M12 => w M12 21 [(0, .ref t), (1, .int k1)] []) (fun _ M12 hf k => h.callV (As := []) (rest := []) (c_X6_advance hW h0 hf) lm_X6_advance lv_m_X6_advance ll_RX6_55 h0 lc_6 rfl rfl (Nat.le_of_ble_eq_true rfl) (by decide) dX6_readNots_18 rfl k) (fun _ M12 => ?_)
      refine E.m (h.iinc (v := (1 : Int32)) 1 dX6_readNots_21 rfl (by decide) (by decide) rfl) ?_
      refine E.nmL (fun y13 => ?_)
      refine E.m (h.goto (tgt := 2) dX6_readNots_24 (by decide)) ?_
      refine E.m (h.sub [1, 0] rfl) ?_
      exact E.some (fun q => q)
def f_X6_operatorHere (t : Nat) (x1_ : Int32) (M : Mem) : Option (Int32 × Mem) :=
  if x1_.toInt < 0 ∨ 4 < x1_.toInt then (some ((0 : Int32), M)) else if x1_ = (0 : Int32) then (bd (f_X6_isWord t 29 M) (fun u1 M2 => jn1 (fun z3 => some (z3, M2)) (fun J51 => if u1 = 0 then (J51 (0 : Int32)) else (J51 (-6 : Int32))))) else if x1_ = (1 : Int32) then (bd (f_X6_isWord t 30 M) (fun u4 M5 => jn1 (fun z6 => some (z6, M5)) (fun J67 => if u4 = 0 then (J67 (0 : Int32)) else (J67 (-7 : Int32))))) else if x1_ = (2 : Int32) then (jn1 (fun z7 => some (z7, M)) (fun J97 => if (M.1 t 5) = (60 : Int32) then (J97 (-8 : Int32)) else (if (M.1 t 5) = (61 : Int32) then (J97 (-9 : Int32)) else (J97 (0 : Int32))))) else if x1_ = (3 : Int32) then (jn1 (fun z8 => some (z8, M)) (fun J127 => if (M.1 t 5) = (43 : Int32) then (J127 (-10 : Int32)) else (if (M.1 t 5) = (45 : Int32) then (J127 (-11 : Int32)) else (J127 (0 : Int32))))) else if x1_ = (4 : Int32) then (jn1 (fun z9 => some (z9, M)) (fun J157 => if (M.1 t 5) = (42 : Int32) then (J157 (-12 : Int32)) else (if (M.1 t 5) = (47 : Int32) then (J157 (-13 : Int32)) else (J157 (0 : Int32))))) else none
set_option maxRecDepth 20000 in
theorem c_X6_operatorHere {G : Ctx} (hW : WFG G) {t : Nat} {x1_ : Int32} {M M' : Mem} {r : Int32} (h0 : hs G t (0, 6)) (hf : f_X6_operatorHere t x1_ M = some (r, M')) : Ct G yX6_operatorHere cX6_operatorHere 2 (some .int) 13 422 [.ref t, .int x1_] M (some (.int r)) M' := by
  refine ct_i hW (by decide +kernel) (Nat.le_of_ble_eq_true rfl) (fun w h hr => ?_)
  have h : Rb G cX6_operatorHere RX6 2 13 422 w := h
  refine (?_ : E (fun q => q = (r, M')) (f_X6_operatorHere t x1_ M) (w M 0 [(0, .ref t), (1, .int x1_)] [])) _ hf rfl
  unfold f_X6_operatorHere
  refine E.m (h.iload_n 1 dX6_operatorHere_0 rfl) ?_
  refine E.sw (fun hc k => h.tabOut (tgt := 158) dX6_operatorHere_1 hc (by decide) k) ?_ (fun hn => ?_)
  · refine E.m (h.iconst (v := (0 : Int32)) dX6_operatorHere_158 (by decide)) ?_
    exact E.some (ret_i hr rfl dX6_operatorHere_159)
  refine E.sw (fun hc k => h.tabIn (tgt := 36) dX6_operatorHere_1 (by rw [hc]; decide) (by rw [hc]; decide) (by rw [hc]; rfl) (by decide) k) ?_ (fun _ => ?_)
  · refine E.m (h.aload_n 0 dX6_operatorHere_36 rfl) ?_
    refine E.m (h.ldcS (i := 29) 15 rfl dX6_operatorHere_37) ?_
    refine E.bnd (fun u1 M2 => w M2 42 [(0, .ref t), (1, .int x1_)] [.int u1]) (fun u1 M2 hf k => h.callV (As := [.ref (gaK G 29)]) (rest := []) (c_X6_isWord hW h0 (by decide) hf) lm_X6_isWord lv_m_X6_isWord ll_RX6_93 h0 lc_6 rfl rfl (Nat.le_of_ble_eq_true rfl) (by decide) dX6_operatorHere_39 rfl k) (fun u1 M2 => ?_)
    refine E.join1 (fun z3 => w M2 51 [(0, .ref t), (1, .int x1_)] [.int z3]) (fun z3 => ?_) (fun J51 hJ51 => ?_)
    · exact E.some (ret_i hr rfl dX6_operatorHere_51)
    refine E.br (fun k1 k2 => h.if_eq (tgt := 50) dX6_operatorHere_42 (by decide) k1 k2) ?_ ?_
    · refine E.m (h.iconst (v := (0 : Int32)) dX6_operatorHere_50 (by decide)) ?_
      exact hJ51 _
    · refine E.m (h.bipush (v := (-6 : Int32)) dX6_operatorHere_45 (by decide)) ?_
      refine E.m (h.goto (tgt := 51) dX6_operatorHere_47 (by decide)) ?_
      exact hJ51 _
  refine E.sw (fun hc k => h.tabIn (tgt := 52) dX6_operatorHere_1 (by rw [hc]; decide) (by rw [hc]; decide) (by rw [hc]; rfl) (by decide) k) ?_ (fun _ => ?_)
  · refine E.m (h.aload_n 0 dX6_operatorHere_52 rfl) ?_
    refine E.m (h.ldcS (i := 30) 16 rfl dX6_operatorHere_53) ?_
    refine E.bnd (fun u4 M5 => w M5 58 [(0, .ref t), (1, .int x1_)] [.int u4]) (fun u4 M5 hf k => h.callV (As := [.ref (gaK G 30)]) (rest := []) (c_X6_isWord hW h0 (by decide) hf) lm_X6_isWord lv_m_X6_isWord ll_RX6_93 h0 lc_6 rfl rfl (Nat.le_of_ble_eq_true rfl) (by decide) dX6_operatorHere_55 rfl k) (fun u4 M5 => ?_)
    refine E.join1 (fun z6 => w M5 67 [(0, .ref t), (1, .int x1_)] [.int z6]) (fun z6 => ?_) (fun J67 hJ67 => ?_)
    · exact E.some (ret_i hr rfl dX6_operatorHere_67)
    refine E.br (fun k1 k2 => h.if_eq (tgt := 66) dX6_operatorHere_58 (by decide) k1 k2) ?_ ?_
    · refine E.m (h.iconst (v := (0 : Int32)) dX6_operatorHere_66 (by decide)) ?_
      exact hJ67 _
    · refine E.m (h.bipush (v := (-7 : Int32)) dX6_operatorHere_61 (by decide)) ?_
      refine E.m (h.goto (tgt := 67) dX6_operatorHere_63 (by decide)) ?_
      exact hJ67 _
  refine E.sw (fun hc k => h.tabIn (tgt := 68) dX6_operatorHere_1 (by rw [hc]; decide) (by rw [hc]; decide) (by rw [hc]; rfl) (by decide) k) ?_ (fun _ => ?_)
  · refine E.m (h.aload_n 0 dX6_operatorHere_68 rfl) ?_
    refine E.m (h.get h0 lf_RX6_58 dX6_operatorHere_69 fv_6_5) ?_
    refine E.m (h.bipush (v := (60 : Int32)) dX6_operatorHere_72 (by decide)) ?_
    refine E.join1 (fun z7 => w M 97 [(0, .ref t), (1, .int x1_)] [.int z7]) (fun z7 => ?_) (fun J97 hJ97 => ?_)
    · exact E.some (ret_i hr rfl dX6_operatorHere_97)
    refine E.br (fun k1 k2 => h.icmp_ne (tgt := 82) dX6_operatorHere_74 (by decide) k2 k1) ?_ ?_
    · refine E.m (h.bipush (v := (-8 : Int32)) dX6_operatorHere_77 (by decide)) ?_
      refine E.m (h.goto (tgt := 97) dX6_operatorHere_79 (by decide)) ?_
      exact hJ97 _
    · refine E.m (h.aload_n 0 dX6_operatorHere_82 rfl) ?_
      refine E.m (h.get h0 lf_RX6_58 dX6_operatorHere_83 fv_6_5) ?_
      refine E.m (h.bipush (v := (61 : Int32)) dX6_operatorHere_86 (by decide)) ?_
      refine E.br (fun k1 k2 => h.icmp_ne (tgt := 96) dX6_operatorHere_88 (by decide) k2 k1) ?_ ?_
      · refine E.m (h.bipush (v := (-9 : Int32)) dX6_operatorHere_91 (by decide)) ?_
        refine E.m (h.goto (tgt := 97) dX6_operatorHere_93 (by decide)) ?_
        exact hJ97 _
      · refine E.m (h.iconst (v := (0 : Int32)) dX6_operatorHere_96 (by decide)) ?_
        exact hJ97 _
  refine E.sw (fun hc k => h.tabIn (tgt := 98) dX6_operatorHere_1 (by rw [hc]; decide) (by rw [hc]; decide) (by rw [hc]; rfl) (by decide) k) ?_ (fun _ => ?_)
  · refine E.m (h.aload_n 0 dX6_operatorHere_98 rfl) ?_
    refine E.m (h.get h0 lf_RX6_58 dX6_operatorHere_99 fv_6_5) ?_
    refine E.m (h.bipush (v := (43 : Int32)) dX6_operatorHere_102 (by decide)) ?_
    refine E.join1 (fun z8 => w M 127 [(0, .ref t), (1, .int x1_)] [.int z8]) (fun z8 => ?_) (fun J127 hJ127 => ?_)
    · exact E.some (ret_i hr rfl dX6_operatorHere_127)
    refine E.br (fun k1 k2 => h.icmp_ne (tgt := 112) dX6_operatorHere_104 (by decide) k2 k1) ?_ ?_
    · refine E.m (h.bipush (v := (-10 : Int32)) dX6_operatorHere_107 (by decide)) ?_
      refine E.m (h.goto (tgt := 127) dX6_operatorHere_109 (by decide)) ?_
      exact hJ127 _
    · refine E.m (h.aload_n 0 dX6_operatorHere_112 rfl) ?_
      refine E.m (h.get h0 lf_RX6_58 dX6_operatorHere_113 fv_6_5) ?_
      refine E.m (h.bipush (v := (45 : Int32)) dX6_operatorHere_116 (by decide)) ?_
      refine E.br (fun k1 k2 => h.icmp_ne (tgt := 126) dX6_operatorHere_118 (by decide) k2 k1) ?_ ?_
      · refine E.m (h.bipush (v := (-11 : Int32)) dX6_operatorHere_121 (by decide)) ?_
        refine E.m (h.goto (tgt := 127) dX6_operatorHere_123 (by decide)) ?_
        exact hJ127 _
      · refine E.m (h.iconst (v := (0 : Int32)) dX6_operatorHere_126 (by decide)) ?_
        exact hJ127 _
  refine E.sw (fun hc k => h.tabIn (tgt := 128) dX6_operatorHere_1 (by rw [hc]; decide) (by rw [hc]; decide) (by rw [hc]; rfl) (by decide) k) ?_ (fun _ => ?_)
  · refine E.m (h.aload_n 0 dX6_operatorHere_128 rfl) ?_
    refine E.m (h.get h0 lf_RX6_58 dX6_operatorHere_129 fv_6_5) ?_
    refine E.m (h.bipush (v := (42 : Int32)) dX6_operatorHere_132 (by decide)) ?_
    refine E.join1 (fun z9 => w M 157 [(0, .ref t), (1, .int x1_)] [.int z9]) (fun z9 => ?_) (fun J157 hJ157 => ?_)
    · exact E.some (ret_i hr rfl dX6_operatorHere_157)
    refine E.br (fun k1 k2 => h.icmp_ne (tgt := 142) dX6_operatorHere_134 (by decide) k2 k1) ?_ ?_
    · refine E.m (h.bipush (v := (-12 : Int32)) dX6_operatorHere_137 (by decide)) ?_
      refine E.m (h.goto (tgt := 157) dX6_operatorHere_139 (by decide)) ?_
      exact hJ157 _
    · refine E.m (h.aload_n 0 dX6_operatorHere_142 rfl) ?_
      refine E.m (h.get h0 lf_RX6_58 dX6_operatorHere_143 fv_6_5) ?_
      refine E.m (h.bipush (v := (47 : Int32)) dX6_operatorHere_146 (by decide)) ?_
      refine E.br (fun k1 k2 => h.icmp_ne (tgt := 156) dX6_operatorHere_148 (by decide) k2 k1) ?_ ?_
      · refine E.m (h.bipush (v := (-13 : Int32)) dX6_operatorHere_151 (by decide)) ?_
        refine E.m (h.goto (tgt := 157) dX6_operatorHere_153 (by decide)) ?_
        exact hJ157 _
      · refine E.m (h.iconst (v := (0 : Int32)) dX6_operatorHere_156 (by decide)) ?_
        exact hJ157 _
  exact E.none
def l_X6_readExpr_102 (t : Nat) (z1 : Int32) (k9 : Int32) (M10 : Mem) : Option ((Int32 × Mem) ⊕ ((Int32 × Mem) ⊕ (Unit × Mem))) :=
  if z1 ≤ k9 then (some (.inr (.inr ((), M10)))) else (gdp (M10.2.2 2 = t + 4 ∨ M10.2.2 2 = t + 7 ∨ M10.2.2 2 = t + 12 ∨ M10.2.2 2 = t + 15) (bd (f_X7_add (M10.2.2 2) (-5 : Int32) M10) (fun _ M13 => nm (k9 + (1 : Int32)) (fun y14 => some (.inl (y14, M13))))))
def l_X6_readExpr_50 (t : Nat) (x1_ : Int32) (x2_ : Int32) (z1 : Int32) (z5 : Int32) (cb_X6_readExpr : Nat → Int32 → Int32 → Mem → Option (Unit × Mem)) (k6 : Int32) (M7 : Mem) : Option ((Int32 × Mem) ⊕ (Unit × Mem)) :=
  jn1 (fun M8 => lop2 FU (l_X6_readExpr_102 t z1) (0 : Int32) M8) (fun J99 => if z5 ≤ k6 then (J99 M7) else (bd (f_X6_operatorHere t x1_ M7) (fun u15 M16 => if u15 = 0 then (J99 M16) else (bd (f_X6_operatorHere t x1_ M16) (fun u17 M18 => bd (f_X6_advance t M18) (fun _ M20 => bd (cb_X6_readExpr t (x1_ + (1 : Int32)) x2_ M20) (fun _ M22 => gdp (M22.2.2 2 = t + 4 ∨ M22.2.2 2 = t + 7 ∨ M22.2.2 2 = t + 12 ∨ M22.2.2 2 = t + 15) (bd (f_X7_add (M22.2.2 2) u17 M22) (fun _ M25 => nm (k6 + (1 : Int32)) (fun y26 => some (.inl (y26, M25))))))))))))
def b_X6_readExpr (cb_X6_readExpr : Nat → Int32 → Int32 → Mem → Option (Unit × Mem)) (cb_X6_readPart : Nat → Int32 → Mem → Option (Unit × Mem)) (t : Nat) (x1_ : Int32) (x2_ : Int32) (M : Mem) : Option (Unit × Mem) :=
  if x1_ < (5 : Int32) then (jn2 (fun z1 M2 => bd (cb_X6_readExpr t (x1_ + (1 : Int32)) x2_ M2) (fun _ M4 => jn1 (fun z5 => lop2 FU (l_X6_readExpr_50 t x1_ x2_ z1 z5 cb_X6_readExpr) (0 : Int32) M4) (fun J45 => if x1_ = (2 : Int32) then (J45 (1 : Int32)) else (J45 (700 : Int32))))) (fun J24 => if x1_ = (2 : Int32) then (bd (f_X6_readNots t M) (fun u27 M28 => J24 u27 M28)) else (J24 (0 : Int32) M))) else (bd (cb_X6_readPart t x2_ M) (fun _ M30 => some ((), M30)))
def b_X6_readPart (cb_X6_readExpr : Nat → Int32 → Int32 → Mem → Option (Unit × Mem)) (cb_X6_readPart : Nat → Int32 → Mem → Option (Unit × Mem)) (t : Nat) (x1_ : Int32) (M : Mem) : Option (Unit × Mem) :=
  jn1 (fun M1 => some ((), M1)) (fun J121 => if (M.1 t 5) = (3 : Int32) then (gdp (M.2.2 2 = t + 4 ∨ M.2.2 2 = t + 7 ∨ M.2.2 2 = t + 12 ∨ M.2.2 2 = t + 15) (bd (f_X6_passNumber t (0 : Int32) (9999 : Int32) M) (fun u17 M18 => bd (f_X7_add (M.2.2 2) u17 M18) (fun _ M20 => J121 M20)))) else (if (M.1 t 5) = (2 : Int32) then (bd (f_X6_readValue t M) (fun _ M15 => J121 M15)) else (if (M.1 t 5) = (40 : Int32) then (bd (f_X6_advance t M) (fun _ M5 => jn1 (fun M6 => bd (f_X6_passSign t (41 : Int32) M6) (fun _ M8 => J121 M8)) (fun J107 => if (6 : Int32) ≤ (x1_ + (1 : Int32)) then (jn1 (fun z9 => bd (f_X6_fail t z9 M5) (fun _ M11 => J107 M11)) (fun J104 => jn0 (fun _ => J104 (2 : Int32)) (fun J99 => if (M5.1 t 5) = (3 : Int32) then (J99 ()) else (if (M5.1 t 5) = (2 : Int32) then (J99 ()) else (if (M5.1 t 5) = (40 : Int32) then (J99 ()) else (J104 (1 : Int32))))))) else (bd (cb_X6_readExpr t (0 : Int32) (x1_ + (1 : Int32)) M5) (fun _ M13 => J107 M13))))) else (bd (f_X6_fail t (1 : Int32) M) (fun _ M3 => J121 M3)))))
set_option maxRecDepth 20000 in
theorem cb_X6_readExpr_ok {G : Ctx} (hW : WFG G) {d : Nat} {cb_X6_readExpr : Nat → Int32 → Int32 → Mem → Option (Unit × Mem)} {cb_X6_readPart : Nat → Int32 → Mem → Option (Unit × Mem)} (ih_X6_readExpr : ∀ {t : Nat} {x1_ : Int32} {x2_ : Int32} {M M' : Mem}, WFG G → hs G t (0, 6) → cb_X6_readExpr t x1_ x2_ M = some ((), M') → Ct G yX6_readExpr cX6_readExpr 7 none (14 + d) (443 + 60 * d) [.ref t, .int x1_, .int x2_] M none M') (ih_X6_readPart : ∀ {t : Nat} {x1_ : Int32} {M M' : Mem}, WFG G → hs G t (0, 6) → cb_X6_readPart t x1_ M = some ((), M') → Ct G yX6_readPart cX6_readPart 2 none (14 + d) (443 + 60 * d) [.ref t, .int x1_] M none M') {t : Nat} {x1_ : Int32} {x2_ : Int32} {M M' : Mem} (h0 : hs G t (0, 6)) (hf : b_X6_readExpr cb_X6_readExpr cb_X6_readPart t x1_ x2_ M = some ((), M')) : Ct G yX6_readExpr cX6_readExpr 7 none (14 + (d + 1)) (443 + 60 * (d + 1)) [.ref t, .int x1_, .int x2_] M none M' := by
  refine ct_v hW (by decide +kernel) (Nat.le_of_ble_eq_true rfl) (fun w h hr => ?_)
  have h : Rb G cX6_readExpr RX6 7 (14 + (d + 1)) (443 + 60 * (d + 1)) w := h
  refine (?_ : E (fun q => q = ((), M')) (b_X6_readExpr cb_X6_readExpr cb_X6_readPart t x1_ x2_ M) (w M 0 [(0, .ref t), (1, .int x1_), (2, .int x2_)] [])) _ hf rfl
  unfold b_X6_readExpr
  refine E.m (h.iload_n 1 dX6_readExpr_0 rfl) ?_
  refine E.m (h.iconst (v := (5 : Int32)) dX6_readExpr_1 (by decide)) ?_
  refine E.br (fun k1 k2 => h.icmp_lt (tgt := 11) dX6_readExpr_2 (by decide) k1 k2) ?_ ?_
  · refine E.m (h.iload_n 1 dX6_readExpr_11 rfl) ?_
    refine E.m (h.iconst (v := (2 : Int32)) dX6_readExpr_12 (by decide)) ?_
    refine E.join2 (fun z1 M2 => w M2 24 [(0, .ref t), (1, .int x1_), (2, .int x2_)] [.int z1]) (fun z1 M2 => ?_) (fun J24 hJ24 => ?_)
    · refine E.m (h.istore_n dX6_readExpr_24 (by decide) rfl) ?_
      refine E.m (h.aload_n 1 dX6_readExpr_25 rfl) ?_
      refine E.m (h.iload_n 2 dX6_readExpr_26 rfl) ?_
      refine E.m (h.iconst (v := (1 : Int32)) dX6_readExpr_27 (by decide)) ?_
      refine E.m (h.iadd dX6_readExpr_28) ?_
      refine E.m (h.iload_n 3 dX6_readExpr_29 rfl) ?_
      refine E.bnd (fun _ M4 => w M4 33 [(3, .int z1), (0, .ref t), (1, .int x1_), (2, .int x2_)] []) (fun _ M4 hf k => h.callV (As := [.int (x1_ + (1 : Int32)), .int x2_]) (rest := []) (ih_X6_readExpr hW h0 hf) lm_X6_readExpr lv_m_X6_readExpr ll_RX6_117 h0 lc_6 rfl rfl (Nat.le_of_ble_eq_true rfl) ⟨by omega, by omega⟩ dX6_readExpr_30 rfl k) (fun _ M4 => ?_)
      refine E.m (h.iload_n 2 dX6_readExpr_33 rfl) ?_
      refine E.m (h.iconst (v := (2 : Int32)) dX6_readExpr_34 (by decide)) ?_
      refine E.join1 (fun z5 => w M4 45 [(0, .ref t), (1, .int x1_), (2, .int x2_), (3, .int z1)] [.int z5]) (fun z5 => ?_) (fun J45 hJ45 => ?_)
      · refine E.m (h.istore dX6_readExpr_45 (by decide) rfl) ?_
        refine E.m (h.iconst (v := (0 : Int32)) dX6_readExpr_47 (by decide)) ?_
        refine E.m (h.istore dX6_readExpr_48 (by decide) rfl) ?_
        refine E.m (h.sub [2, 3, 4, 5, 1, 0] rfl) ?_
        refine E.loop2 (fun k6 M7 => w M7 50 [(0, .ref t), (1, .int x1_), (2, .int x2_), (3, .int z1), (4, .int z5), (5, .int k6)] []) (fun k6 M7 => ?_) _ _ _
        unfold l_X6_readExpr_50
        refine E.m (h.iload 5 dX6_readExpr_50 rfl) ?_
        refine E.m (h.iload 4 dX6_readExpr_52 rfl) ?_
        refine E.join1 (fun M8 => w M8 99 [(0, .ref t), (1, .int x1_), (2, .int x2_), (3, .int z1), (4, .int z5), (5, .int k6)] []) (fun M8 => ?_) (fun J99 hJ99 => ?_)
        · refine E.m (h.iconst (v := (0 : Int32)) dX6_readExpr_99 (by decide)) ?_
          refine E.m (h.istore dX6_readExpr_100 (by decide) rfl) ?_
          refine E.m (h.sub [1, 2, 3, 4, 5, 0] rfl) ?_
          refine E.loop2 (fun k9 M10 => w M10 102 [(0, .ref t), (1, .int x1_), (2, .int x2_), (3, .int z1), (4, .int z5), (5, .int k9)] []) (fun k9 M10 => ?_) _ _ _
          unfold l_X6_readExpr_102
          refine E.m (h.iload 5 dX6_readExpr_102 rfl) ?_
          refine E.m (h.iload_n 3 dX6_readExpr_104 rfl) ?_
          refine E.br (fun k1 k2 => h.icmp_ge (tgt := 123) dX6_readExpr_105 (by decide) k1 k2) ?_ ?_
          · exact E.some (ret_v hr dX6_readExpr_123)
          · refine E.m (h.aload_n 0 dX6_readExpr_108 rfl) ?_
            refine E.gd (fun _ k => h.get h0 lf_RX6_30 dX6_readExpr_109 fv_6_9 k) (fun hd11 => ?_)
            refine E.m (h.bipush (v := (-5 : Int32)) dX6_readExpr_112 (by decide)) ?_
            refine E.bnd (fun _ M13 => w M13 117 [(0, .ref t), (1, .int x1_), (2, .int x2_), (3, .int z1), (4, .int z5), (5, .int k9)] []) (fun _ M13 hf k => h.callV (As := [.int (-5 : Int32)]) (rest := []) (c_X7_add hW (hs4 hd11 (hW.clo 19 h0 rfl) (hW.clo 20 h0 rfl) (hW.clo 21 h0 rfl) (hW.clo 22 h0 rfl)) hf) lm_X7_add lv_m_X7_add ll_RX6_167 (hs4 hd11 (hW.clo 19 h0 rfl) (hW.clo 20 h0 rfl) (hW.clo 21 h0 rfl) (hW.clo 22 h0 rfl)) lc_7 rfl rfl (Nat.le_of_ble_eq_true rfl) ⟨by omega, by omega⟩ dX6_readExpr_114 rfl k) (fun _ M13 => ?_)
            refine E.m (h.iinc (v := (1 : Int32)) 5 dX6_readExpr_117 rfl (by decide) (by decide) rfl) ?_
            refine E.nmL (fun y14 => ?_)
            refine E.m (h.goto (tgt := 102) dX6_readExpr_120 (by decide)) ?_
            refine E.m (h.sub [1, 2, 3, 4, 5, 0] rfl) ?_
            exact E.some (fun q => q)
        refine E.br (fun k1 k2 => h.icmp_ge (tgt := 99) dX6_readExpr_54 (by decide) k1 k2) ?_ ?_
        · exact hJ99 _
        · refine E.m (h.aload_n 0 dX6_readExpr_57 rfl) ?_
          refine E.m (h.iload_n 1 dX6_readExpr_58 rfl) ?_
          refine E.bnd (fun u15 M16 => w M16 62 [(0, .ref t), (1, .int x1_), (2, .int x2_), (3, .int z1), (4, .int z5), (5, .int k6)] [.int u15]) (fun u15 M16 hf k => h.callV (As := [.int x1_]) (rest := []) (c_X6_operatorHere hW h0 hf) lm_X6_operatorHere lv_m_X6_operatorHere ll_RX6_164 h0 lc_6 rfl rfl (Nat.le_of_ble_eq_true rfl) ⟨by omega, by omega⟩ dX6_readExpr_59 rfl k) (fun u15 M16 => ?_)
          refine E.br (fun k1 k2 => h.if_eq (tgt := 99) dX6_readExpr_62 (by decide) k1 k2) ?_ ?_
          · exact hJ99 _
          · refine E.m (h.aload_n 0 dX6_readExpr_65 rfl) ?_
            refine E.m (h.iload_n 1 dX6_readExpr_66 rfl) ?_
            refine E.bnd (fun u17 M18 => w M18 70 [(0, .ref t), (1, .int x1_), (2, .int x2_), (3, .int z1), (4, .int z5), (5, .int k6)] [.int u17]) (fun u17 M18 hf k => h.callV (As := [.int x1_]) (rest := []) (c_X6_operatorHere hW h0 hf) lm_X6_operatorHere lv_m_X6_operatorHere ll_RX6_164 h0 lc_6 rfl rfl (Nat.le_of_ble_eq_true rfl) ⟨by omega, by omega⟩ dX6_readExpr_67 rfl k) (fun u17 M18 => ?_)
            refine E.m (h.istore dX6_readExpr_70 (by decide) rfl) ?_
            refine E.m (h.aload_n 1 dX6_readExpr_72 rfl) ?_
            refine E.bnd (fun _ M20 => w M20 76 [(6, .int u17), (0, .ref t), (1, .int x1_), (2, .int x2_), (3, .int z1), (4, .int z5), (5, .int k6)] []) (fun _ M20 hf k => h.callV (As := []) (rest := []) (c_X6_advance hW h0 hf) lm_X6_advance lv_m_X6_advance ll_RX6_55 h0 lc_6 rfl rfl (Nat.le_of_ble_eq_true rfl) ⟨by omega, by omega⟩ dX6_readExpr_73 rfl k) (fun _ M20 => ?_)
            refine E.m (h.aload_n 1 dX6_readExpr_76 rfl) ?_
            refine E.m (h.iload_n 2 dX6_readExpr_77 rfl) ?_
            refine E.m (h.iconst (v := (1 : Int32)) dX6_readExpr_78 (by decide)) ?_
            refine E.m (h.iadd dX6_readExpr_79) ?_
            refine E.m (h.iload_n 3 dX6_readExpr_80 rfl) ?_
            refine E.bnd (fun _ M22 => w M22 84 [(6, .int u17), (0, .ref t), (1, .int x1_), (2, .int x2_), (3, .int z1), (4, .int z5), (5, .int k6)] []) (fun _ M22 hf k => h.callV (As := [.int (x1_ + (1 : Int32)), .int x2_]) (rest := []) (ih_X6_readExpr hW h0 hf) lm_X6_readExpr lv_m_X6_readExpr ll_RX6_117 h0 lc_6 rfl rfl (Nat.le_of_ble_eq_true rfl) ⟨by omega, by omega⟩ dX6_readExpr_81 rfl k) (fun _ M22 => ?_)
            refine E.m (h.aload_n 1 dX6_readExpr_84 rfl) ?_
            refine E.gd (fun _ k => h.get h0 lf_RX6_30 dX6_readExpr_85 fv_6_9 k) (fun hd23 => ?_)
            refine E.m (h.iload 0 dX6_readExpr_88 rfl) ?_
            refine E.bnd (fun _ M25 => w M25 93 [(6, .int u17), (0, .ref t), (1, .int x1_), (2, .int x2_), (3, .int z1), (4, .int z5), (5, .int k6)] []) (fun _ M25 hf k => h.callV (As := [.int u17]) (rest := []) (c_X7_add hW (hs4 hd23 (hW.clo 19 h0 rfl) (hW.clo 20 h0 rfl) (hW.clo 21 h0 rfl) (hW.clo 22 h0 rfl)) hf) lm_X7_add lv_m_X7_add ll_RX6_167 (hs4 hd23 (hW.clo 19 h0 rfl) (hW.clo 20 h0 rfl) (hW.clo 21 h0 rfl) (hW.clo 22 h0 rfl)) lc_7 rfl rfl (Nat.le_of_ble_eq_true rfl) ⟨by omega, by omega⟩ dX6_readExpr_90 rfl k) (fun _ M25 => ?_)
            refine E.m (h.iinc (v := (1 : Int32)) 6 dX6_readExpr_93 rfl (by decide) (by decide) rfl) ?_
            refine E.nmL (fun y26 => ?_)
            refine E.m (h.goto (tgt := 50) dX6_readExpr_96 (by decide)) ?_
            refine E.m (h.sub [2, 3, 4, 5, 6, 0] rfl) ?_
            exact E.some (fun q => q)
      refine E.br (fun k1 k2 => h.icmp_ne (tgt := 42) dX6_readExpr_35 (by decide) k2 k1) ?_ ?_
      · refine E.m (h.iconst (v := (1 : Int32)) dX6_readExpr_38 (by decide)) ?_
        refine E.m (h.goto (tgt := 45) dX6_readExpr_39 (by decide)) ?_
        refine E.m (h.sub [1, 2, 3, 0] rfl) ?_
        exact hJ45 _
      · refine E.m (h.sipush (v := (700 : Int32)) dX6_readExpr_42 (by decide)) ?_
        refine E.m (h.sub [1, 2, 3, 0] rfl) ?_
        exact hJ45 _
    refine E.br (fun k1 k2 => h.icmp_ne (tgt := 23) dX6_readExpr_13 (by decide) k2 k1) ?_ ?_
    · refine E.m (h.aload_n 0 dX6_readExpr_16 rfl) ?_
      refine E.bnd (fun u27 M28 => w M28 20 [(0, .ref t), (1, .int x1_), (2, .int x2_)] [.int u27]) (fun u27 M28 hf k => h.callV (As := []) (rest := []) (c_X6_readNots hW h0 hf) lm_X6_readNots lv_m_X6_readNots ll_RX6_161 h0 lc_6 rfl rfl (Nat.le_of_ble_eq_true rfl) ⟨by omega, by omega⟩ dX6_readExpr_17 rfl k) (fun u27 M28 => ?_)
      refine E.m (h.goto (tgt := 24) dX6_readExpr_20 (by decide)) ?_
      exact hJ24 _ _
    · refine E.m (h.iconst (v := (0 : Int32)) dX6_readExpr_23 (by decide)) ?_
      exact hJ24 _ _
  · refine E.m (h.aload_n 0 dX6_readExpr_5 rfl) ?_
    refine E.m (h.iload_n 2 dX6_readExpr_6 rfl) ?_
    refine E.bnd (fun _ M30 => w M30 10 [(0, .ref t), (1, .int x1_), (2, .int x2_)] []) (fun _ M30 hf k => h.callV (As := [.int x2_]) (rest := []) (ih_X6_readPart hW h0 hf) lm_X6_readPart lv_m_X6_readPart ll_RX6_158 h0 lc_6 rfl rfl (Nat.le_of_ble_eq_true rfl) ⟨by omega, by omega⟩ dX6_readExpr_7 rfl k) (fun _ M30 => ?_)
    exact E.some (ret_v hr dX6_readExpr_10)
set_option maxRecDepth 20000 in
theorem cb_X6_readPart_ok {G : Ctx} (hW : WFG G) {d : Nat} {cb_X6_readExpr : Nat → Int32 → Int32 → Mem → Option (Unit × Mem)} {cb_X6_readPart : Nat → Int32 → Mem → Option (Unit × Mem)} (ih_X6_readExpr : ∀ {t : Nat} {x1_ : Int32} {x2_ : Int32} {M M' : Mem}, WFG G → hs G t (0, 6) → cb_X6_readExpr t x1_ x2_ M = some ((), M') → Ct G yX6_readExpr cX6_readExpr 7 none (14 + d) (443 + 60 * d) [.ref t, .int x1_, .int x2_] M none M') (ih_X6_readPart : ∀ {t : Nat} {x1_ : Int32} {M M' : Mem}, WFG G → hs G t (0, 6) → cb_X6_readPart t x1_ M = some ((), M') → Ct G yX6_readPart cX6_readPart 2 none (14 + d) (443 + 60 * d) [.ref t, .int x1_] M none M') {t : Nat} {x1_ : Int32} {M M' : Mem} (h0 : hs G t (0, 6)) (hf : b_X6_readPart cb_X6_readExpr cb_X6_readPart t x1_ M = some ((), M')) : Ct G yX6_readPart cX6_readPart 2 none (14 + (d + 1)) (443 + 60 * (d + 1)) [.ref t, .int x1_] M none M' := by
  refine ct_v hW (by decide +kernel) (Nat.le_of_ble_eq_true rfl) (fun w h hr => ?_)
  have h : Rb G cX6_readPart RX6 2 (14 + (d + 1)) (443 + 60 * (d + 1)) w := h
  refine (?_ : E (fun q => q = ((), M')) (b_X6_readPart cb_X6_readExpr cb_X6_readPart t x1_ M) (w M 0 [(0, .ref t), (1, .int x1_)] [])) _ hf rfl
  unfold b_X6_readPart
  refine E.m (h.aload_n 0 dX6_readPart_0 rfl) ?_
  refine E.m (h.get h0 lf_RX6_58 dX6_readPart_1 fv_6_5) ?_
  refine E.m (h.iconst (v := (3 : Int32)) dX6_readPart_4 (by decide)) ?_
  refine E.join1 (fun M1 => w M1 121 [(0, .ref t), (1, .int x1_)] []) (fun M1 => ?_) (fun J121 hJ121 => ?_)
  · exact E.some (ret_v hr dX6_readPart_121)
  refine E.br (fun k1 k2 => h.icmp_ne (tgt := 26) dX6_readPart_5 (by decide) k2 k1) ?_ ?_
  · refine E.m (h.aload_n 0 dX6_readPart_8 rfl) ?_
    refine E.gd (fun _ k => h.get h0 lf_RX6_30 dX6_readPart_9 fv_6_9 k) (fun hd16 => ?_)
    refine E.m (h.aload_n 0 dX6_readPart_12 rfl) ?_
    refine E.m (h.iconst (v := (0 : Int32)) dX6_readPart_13 (by decide)) ?_
    refine E.m (h.sipush (v := (9999 : Int32)) dX6_readPart_14 (by decide)) ?_
    refine E.bnd (fun u17 M18 => w M18 20 [(0, .ref t), (1, .int x1_)] [.int u17, .ref (M.2.2 2)]) (fun u17 M18 hf k => h.callV (As := [.int (0 : Int32), .int (9999 : Int32)]) (rest := [.ref (M.2.2 2)]) (c_X6_passNumber hW h0 hf) lm_X6_passNumber lv_m_X6_passNumber ll_RX6_127 h0 lc_6 rfl rfl (Nat.le_of_ble_eq_true rfl) ⟨by omega, by omega⟩ dX6_readPart_17 rfl k) (fun u17 M18 => ?_)
    refine E.bnd (fun _ M20 => w M20 23 [(0, .ref t), (1, .int x1_)] []) (fun _ M20 hf k => h.callV (As := [.int u17]) (rest := []) (c_X7_add hW (hs4 hd16 (hW.clo 19 h0 rfl) (hW.clo 20 h0 rfl) (hW.clo 21 h0 rfl) (hW.clo 22 h0 rfl)) hf) lm_X7_add lv_m_X7_add ll_RX6_167 (hs4 hd16 (hW.clo 19 h0 rfl) (hW.clo 20 h0 rfl) (hW.clo 21 h0 rfl) (hW.clo 22 h0 rfl)) lc_7 rfl rfl (Nat.le_of_ble_eq_true rfl) ⟨by omega, by omega⟩ dX6_readPart_20 rfl k) (fun _ M20 => ?_)
    refine E.m (h.goto (tgt := 121) dX6_readPart_23 (by decide)) ?_
    exact hJ121 _
  · refine E.m (h.aload_n 0 dX6_readPart_26 rfl) ?_
    refine E.m (h.get h0 lf_RX6_58 dX6_readPart_27 fv_6_5) ?_
    refine E.m (h.iconst (v := (2 : Int32)) dX6_readPart_30 (by decide)) ?_
    refine E.br (fun k1 k2 => h.icmp_ne (tgt := 41) dX6_readPart_31 (by decide) k2 k1) ?_ ?_
    · refine E.m (h.aload_n 0 dX6_readPart_34 rfl) ?_
      refine E.bnd (fun _ M15 => w M15 38 [(0, .ref t), (1, .int x1_)] []) (fun _ M15 hf k => h.callV (As := []) (rest := []) (c_X6_readValue hW h0 hf) lm_X6_readValue lv_m_X6_readValue ll_RX6_178 h0 lc_6 rfl rfl (Nat.le_of_ble_eq_true rfl) ⟨by omega, by omega⟩ dX6_readPart_35 rfl k) (fun _ M15 => ?_)
      refine E.m (h.goto (tgt := 121) dX6_readPart_38 (by decide)) ?_
      exact hJ121 _
    · refine E.m (h.aload_n 0 dX6_readPart_41 rfl) ?_
      refine E.m (h.get h0 lf_RX6_58 dX6_readPart_42 fv_6_5) ?_
      refine E.m (h.bipush (v := (40 : Int32)) dX6_readPart_45 (by decide)) ?_
      refine E.br (fun k1 k2 => h.icmp_ne (tgt := 116) dX6_readPart_47 (by decide) k2 k1) ?_ ?_
      · refine E.m (h.aload_n 0 dX6_readPart_50 rfl) ?_
        refine E.bnd (fun _ M5 => w M5 54 [(0, .ref t), (1, .int x1_)] []) (fun _ M5 hf k => h.callV (As := []) (rest := []) (c_X6_advance hW h0 hf) lm_X6_advance lv_m_X6_advance ll_RX6_55 h0 lc_6 rfl rfl (Nat.le_of_ble_eq_true rfl) ⟨by omega, by omega⟩ dX6_readPart_51 rfl k) (fun _ M5 => ?_)
        refine E.m (h.iload_n 1 dX6_readPart_54 rfl) ?_
        refine E.m (h.iconst (v := (1 : Int32)) dX6_readPart_55 (by decide)) ?_
        refine E.m (h.iadd dX6_readPart_56) ?_
        refine E.m (h.bipush (v := (6 : Int32)) dX6_readPart_57 (by decide)) ?_
        refine E.join1 (fun M6 => w M6 107 [(0, .ref t), (1, .int x1_)] []) (fun M6 => ?_) (fun J107 hJ107 => ?_)
        · refine E.m (h.aload_n 0 dX6_readPart_107 rfl) ?_
          refine E.m (h.bipush (v := (41 : Int32)) dX6_readPart_108 (by decide)) ?_
          refine E.bnd (fun _ M8 => w M8 113 [(0, .ref t), (1, .int x1_)] []) (fun _ M8 hf k => h.callV (As := [.int (41 : Int32)]) (rest := []) (c_X6_passSign hW h0 hf) lm_X6_passSign lv_m_X6_passSign ll_RX6_124 h0 lc_6 rfl rfl (Nat.le_of_ble_eq_true rfl) ⟨by omega, by omega⟩ dX6_readPart_110 rfl k) (fun _ M8 => ?_)
          refine E.m (h.goto (tgt := 121) dX6_readPart_113 (by decide)) ?_
          exact hJ121 _
        refine E.br (fun k1 k2 => h.icmp_ge (tgt := 73) dX6_readPart_59 (by decide) k1 k2) ?_ ?_
        · refine E.m (h.aload_n 0 dX6_readPart_73 rfl) ?_
          refine E.m (h.aload_n 0 dX6_readPart_74 rfl) ?_
          refine E.m (h.get h0 lf_RX6_58 dX6_readPart_75 fv_6_5) ?_
          refine E.m (h.iconst (v := (3 : Int32)) dX6_readPart_78 (by decide)) ?_
          refine E.join1 (fun z9 => w M5 104 [(0, .ref t), (1, .int x1_)] [.int z9, .ref t]) (fun z9 => ?_) (fun J104 hJ104 => ?_)
          · refine E.bnd (fun _ M11 => w M11 107 [(0, .ref t), (1, .int x1_)] []) (fun _ M11 hf k => h.callV (As := [.int z9]) (rest := []) (c_X6_fail hW h0 hf) lm_X6_fail lv_m_X6_fail ll_RX6_84 h0 lc_6 rfl rfl (Nat.le_of_ble_eq_true rfl) ⟨by omega, by omega⟩ dX6_readPart_104 rfl k) (fun _ M11 => ?_)
            exact hJ107 _
          refine E.join0 (fun _ => w M5 99 [(0, .ref t), (1, .int x1_)] [.ref t]) (fun _ => ?_) (fun J99 hJ99 => ?_)
          · refine E.m (h.iconst (v := (2 : Int32)) dX6_readPart_99 (by decide)) ?_
            refine E.m (h.goto (tgt := 104) dX6_readPart_100 (by decide)) ?_
            exact hJ104 _
          refine E.br (fun k1 k2 => h.icmp_eq (tgt := 99) dX6_readPart_79 (by decide) k1 k2) ?_ ?_
          · exact hJ99 ()
          · refine E.m (h.aload_n 0 dX6_readPart_82 rfl) ?_
            refine E.m (h.get h0 lf_RX6_58 dX6_readPart_83 fv_6_5) ?_
            refine E.m (h.iconst (v := (2 : Int32)) dX6_readPart_86 (by decide)) ?_
            refine E.br (fun k1 k2 => h.icmp_eq (tgt := 99) dX6_readPart_87 (by decide) k1 k2) ?_ ?_
            · exact hJ99 ()
            · refine E.m (h.aload_n 0 dX6_readPart_90 rfl) ?_
              refine E.m (h.get h0 lf_RX6_58 dX6_readPart_91 fv_6_5) ?_
              refine E.m (h.bipush (v := (40 : Int32)) dX6_readPart_94 (by decide)) ?_
              refine E.br (fun k1 k2 => h.icmp_ne (tgt := 103) dX6_readPart_96 (by decide) k2 k1) ?_ ?_
              · exact hJ99 ()
              · refine E.m (h.iconst (v := (1 : Int32)) dX6_readPart_103 (by decide)) ?_
                exact hJ104 _
        · refine E.m (h.aload_n 0 dX6_readPart_62 rfl) ?_
          refine E.m (h.iconst (v := (0 : Int32)) dX6_readPart_63 (by decide)) ?_
          refine E.m (h.iload_n 1 dX6_readPart_64 rfl) ?_
          refine E.m (h.iconst (v := (1 : Int32)) dX6_readPart_65 (by decide)) ?_
          refine E.m (h.iadd dX6_readPart_66) ?_
          refine E.bnd (fun _ M13 => w M13 70 [(0, .ref t), (1, .int x1_)] []) (fun _ M13 hf k => h.callV (As := [.int (0 : Int32), .int (x1_ + (1 : Int32))]) (rest := []) (ih_X6_readExpr hW h0 hf) lm_X6_readExpr lv_m_X6_readExpr ll_RX6_117 h0 lc_6 rfl rfl (Nat.le_of_ble_eq_true rfl) ⟨by omega, by omega⟩ dX6_readPart_67 rfl k) (fun _ M13 => ?_)
          refine E.m (h.goto (tgt := 107) dX6_readPart_70 (by decide)) ?_
          exact hJ107 _
      · refine E.m (h.aload_n 0 dX6_readPart_116 rfl) ?_
        refine E.m (h.iconst (v := (1 : Int32)) dX6_readPart_117 (by decide)) ?_
        refine E.bnd (fun _ M3 => w M3 121 [(0, .ref t), (1, .int x1_)] []) (fun _ M3 hf k => h.callV (As := [.int (1 : Int32)]) (rest := []) (c_X6_fail hW h0 hf) lm_X6_fail lv_m_X6_fail ll_RX6_84 h0 lc_6 rfl rfl (Nat.le_of_ble_eq_true rfl) ⟨by omega, by omega⟩ dX6_readPart_118 rfl k) (fun _ M3 => ?_)
        exact hJ121 _
def fam_X6_readExpr : Nat → (Nat → Int32 → Int32 → Mem → Option (Unit × Mem)) × (Nat → Int32 → Mem → Option (Unit × Mem))
  | 0 => (fun _ _ _ _ => none, fun _ _ _ => none)
  | d + 1 => (b_X6_readExpr (fam_X6_readExpr d).1 (fam_X6_readExpr d).2, b_X6_readPart (fam_X6_readExpr d).1 (fam_X6_readExpr d).2)
def f_X6_readExpr (d : Nat) (t : Nat) (x1_ : Int32) (x2_ : Int32) (M : Mem) : Option (Unit × Mem) := (fam_X6_readExpr d).1 t x1_ x2_ M
def f_X6_readPart (d : Nat) (t : Nat) (x1_ : Int32) (M : Mem) : Option (Unit × Mem) := (fam_X6_readExpr d).2 t x1_ M
theorem fam_X6_readExpr_ok {G : Ctx} (hW : WFG G) : ∀ d, (∀ {t : Nat} {x1_ : Int32} {x2_ : Int32} {M M' : Mem}, hs G t (0, 6) → (fam_X6_readExpr d).1 t x1_ x2_ M = some ((), M') → Ct G yX6_readExpr cX6_readExpr 7 none (14 + d) (443 + 60 * d) [.ref t, .int x1_, .int x2_] M none M') ∧ (∀ {t : Nat} {x1_ : Int32} {M M' : Mem}, hs G t (0, 6) → (fam_X6_readExpr d).2 t x1_ M = some ((), M') → Ct G yX6_readPart cX6_readPart 2 none (14 + d) (443 + 60 * d) [.ref t, .int x1_] M none M') := by
  intro d
  induction d with
  | zero =>
    refine ⟨?_, ?_⟩ <;> (intros; rename_i hf; simp [fam_X6_readExpr] at hf)
  | succ d ih =>
    obtain ⟨i0, i1⟩ := ih
    refine ⟨fun h0_ hf => cb_X6_readExpr_ok hW (fun hW h0_ hf => i0 h0_ hf) (fun hW h0_ hf => i1 h0_ hf) h0_ hf, fun h0_ hf => cb_X6_readPart_ok hW (fun hW h0_ hf => i0 h0_ hf) (fun hW h0_ hf => i1 h0_ hf) h0_ hf⟩
theorem c_X6_readExpr {G : Ctx} {d : Nat} (hW : WFG G) {t : Nat} {x1_ : Int32} {x2_ : Int32} {M M' : Mem} (h0 : hs G t (0, 6)) (hf : f_X6_readExpr d t x1_ x2_ M = some ((), M')) : Ct G yX6_readExpr cX6_readExpr 7 none (14 + d) (443 + 60 * d) [.ref t, .int x1_, .int x2_] M none M' := (fam_X6_readExpr_ok hW d).1 h0 hf
theorem c_X6_readPart {G : Ctx} {d : Nat} (hW : WFG G) {t : Nat} {x1_ : Int32} {M M' : Mem} (h0 : hs G t (0, 6)) (hf : f_X6_readPart d t x1_ M = some ((), M')) : Ct G yX6_readPart cX6_readPart 2 none (14 + d) (443 + 60 * d) [.ref t, .int x1_] M none M' := (fam_X6_readExpr_ok hW d).2 h0 hf
def f_X6_readOffset (t : Nat) (M : Mem) : Option (Int32 × Mem) :=
  if (M.1 t 5) = (45 : Int32) then (bd (f_X6_advance t M) (fun _ M2 => bd (f_X6_passNumber t (0 : Int32) (99 : Int32) M2) (fun u3 M4 => some (-u3, M4)))) else (bd (f_X6_passNumber t (0 : Int32) (99 : Int32) M) (fun u5 M6 => some (u5, M6)))
set_option maxRecDepth 20000 in
theorem c_X6_readOffset {G : Ctx} (hW : WFG G) {t : Nat} {M M' : Mem} {r : Int32} (h0 : hs G t (0, 6)) (hf : f_X6_readOffset t M = some (r, M')) : Ct G yX6_readOffset cX6_readOffset 1 (some .int) 3 66 [.ref t] M (some (.int r)) M' := by
  refine ct_i hW (by decide +kernel) (Nat.le_of_ble_eq_true rfl) (fun w h hr => ?_)
  have h : Rb G cX6_readOffset RX6 1 3 66 w := h
  refine (?_ : E (fun q => q = (r, M')) (f_X6_readOffset t M) (w M 0 [(0, .ref t)] [])) _ hf rfl
  unfold f_X6_readOffset
  refine E.m (h.aload_n 0 dX6_readOffset_0 rfl) ?_
  refine E.m (h.get h0 lf_RX6_58 dX6_readOffset_1 fv_6_5) ?_
  refine E.m (h.bipush (v := (45 : Int32)) dX6_readOffset_4 (by decide)) ?_
  refine E.br (fun k1 k2 => h.icmp_eq (tgt := 17) dX6_readOffset_6 (by decide) k1 k2) ?_ ?_
  · refine E.m (h.aload_n 0 dX6_readOffset_17 rfl) ?_
    refine E.bnd (fun _ M2 => w M2 21 [(0, .ref t)] []) (fun _ M2 hf k => h.callV (As := []) (rest := []) (c_X6_advance hW h0 hf) lm_X6_advance lv_m_X6_advance ll_RX6_55 h0 lc_6 rfl rfl (Nat.le_of_ble_eq_true rfl) (by decide) dX6_readOffset_18 rfl k) (fun _ M2 => ?_)
    refine E.m (h.aload_n 0 dX6_readOffset_21 rfl) ?_
    refine E.m (h.iconst (v := (0 : Int32)) dX6_readOffset_22 (by decide)) ?_
    refine E.m (h.bipush (v := (99 : Int32)) dX6_readOffset_23 (by decide)) ?_
    refine E.bnd (fun u3 M4 => w M4 28 [(0, .ref t)] [.int u3]) (fun u3 M4 hf k => h.callV (As := [.int (0 : Int32), .int (99 : Int32)]) (rest := []) (c_X6_passNumber hW h0 hf) lm_X6_passNumber lv_m_X6_passNumber ll_RX6_127 h0 lc_6 rfl rfl (Nat.le_of_ble_eq_true rfl) (by decide) dX6_readOffset_25 rfl k) (fun u3 M4 => ?_)
    refine E.m (h.ineg dX6_readOffset_28) ?_
    exact E.some (ret_i hr rfl dX6_readOffset_29)
  · refine E.m (h.aload_n 0 dX6_readOffset_9 rfl) ?_
    refine E.m (h.iconst (v := (0 : Int32)) dX6_readOffset_10 (by decide)) ?_
    refine E.m (h.bipush (v := (99 : Int32)) dX6_readOffset_11 (by decide)) ?_
    refine E.bnd (fun u5 M6 => w M6 16 [(0, .ref t)] [.int u5]) (fun u5 M6 hf k => h.callV (As := [.int (0 : Int32), .int (99 : Int32)]) (rest := []) (c_X6_passNumber hW h0 hf) lm_X6_passNumber lv_m_X6_passNumber ll_RX6_127 h0 lc_6 rfl rfl (Nat.le_of_ble_eq_true rfl) (by decide) dX6_readOffset_13 rfl k) (fun u5 M6 => ?_)
    exact E.some (ret_i hr rfl dX6_readOffset_16)
def l_X6_readWord_29 (t : Nat) (k8 : Int32) (M9 : Mem) : Option ((Int32 × Mem) ⊕ (Unit × Mem)) :=
  jn0 (fun _ => jn1 (fun M10 => some (.inr ((), M10))) (fun J91 => if (M9.1 t 5) = (3 : Int32) then (bd (f_X6_fail t (2 : Int32) M9) (fun _ M12 => J91 M12)) else (J91 M9))) (fun J78 => if (16 : Int32) ≤ k8 then (J78 ()) else (if (M9.1 t 5) = (3 : Int32) then (gdp (M9.2.2 1 = t + 2 ∨ M9.2.2 1 = t + 10) (bd (f_X6_passNumber t (0 : Int32) (255 : Int32) M9) (fun u14 M15 => bd (f_X10_put (M9.2.2 1 + 1) 16 k8 u14 M15) (fun _ M17 => gdp (M17.2.2 1 = t + 2 ∨ M17.2.2 1 = t + 10) (nm (wi M17 (M17.2.2 1) 7 (k8 + (1 : Int32))) (fun M19 => nm (k8 + (1 : Int32)) (fun y20 => some (.inl (y20, M19))))))))) else (J78 ())))
def f_X6_readWord (t : Nat) (M : Mem) : Option (Unit × Mem) :=
  gdp (M.2.2 1 = t + 2 ∨ M.2.2 1 = t + 10) (bd (f_X6_passNumber t (0 : Int32) (255 : Int32) M) (fun u2 M3 => bd (f_X10_put (M.2.2 1 + 1) 16 (0 : Int32) u2 M3) (fun _ M5 => gdp (M5.2.2 1 = t + 2 ∨ M5.2.2 1 = t + 10) (nm (wi M5 (M5.2.2 1) 7 (1 : Int32)) (fun M7 => lop2 FU (l_X6_readWord_29 t) (1 : Int32) M7)))))
set_option maxRecDepth 20000 in
theorem c_X6_readWord {G : Ctx} (hW : WFG G) {t : Nat} {M M' : Mem} (h0 : hs G t (0, 6)) (hf : f_X6_readWord t M = some ((), M')) : Ct G yX6_readWord cX6_readWord 2 none 3 66 [.ref t] M none M' := by
  refine ct_v hW (by decide +kernel) (Nat.le_of_ble_eq_true rfl) (fun w h hr => ?_)
  have h : Rb G cX6_readWord RX6 2 3 66 w := h
  refine (?_ : E (fun q => q = ((), M')) (f_X6_readWord t M) (w M 0 [(0, .ref t)] [])) _ hf rfl
  unfold f_X6_readWord
  refine E.m (h.aload_n 0 dX6_readWord_0 rfl) ?_
  refine E.gd (fun _ k => h.get h0 lf_RX6_22 dX6_readWord_1 fv_6_8 k) (fun hd1 => ?_)
  refine E.m (h.get (hs2 hd1 (hW.clo 17 h0 rfl) (hW.clo 18 h0 rfl)) lf_RX6_153 dX6_readWord_4 fv_3_8) ?_
  refine E.m (h.iconst (v := (0 : Int32)) dX6_readWord_7 (by decide)) ?_
  refine E.m (h.aload_n 0 dX6_readWord_8 rfl) ?_
  refine E.m (h.iconst (v := (0 : Int32)) dX6_readWord_9 (by decide)) ?_
  refine E.m (h.sipush (v := (255 : Int32)) dX6_readWord_10 (by decide)) ?_
  refine E.bnd (fun u2 M3 => w M3 16 [(0, .ref t)] [.int u2, .int (0 : Int32), .ref (M.2.2 1 + 1)]) (fun u2 M3 hf k => h.callV (As := [.int (0 : Int32), .int (255 : Int32)]) (rest := [.int (0 : Int32), .ref (M.2.2 1 + 1)]) (c_X6_passNumber hW h0 hf) lm_X6_passNumber lv_m_X6_passNumber ll_RX6_127 h0 lc_6 rfl rfl (Nat.le_of_ble_eq_true rfl) (by decide) dX6_readWord_13 rfl k) (fun u2 M3 => ?_)
  refine E.bnd (fun _ M5 => w M5 19 [(0, .ref t)] []) (fun _ M5 hf k => h.callSN (As := [.ref (M.2.2 1 + 1), .int (0 : Int32), .int u2]) (rest := []) (c_X10_put hW (hW.clo 9 (hs2 hd1 (hW.clo 17 h0 rfl) (hW.clo 18 h0 rfl)) rfl) hf) lm_X10_put ls_m_X10_put 11 rfl rfl rfl (Nat.le_of_ble_eq_true rfl) (by decide) dX6_readWord_16 rfl k) (fun _ M5 => ?_)
  refine E.m (h.aload_n 0 dX6_readWord_19 rfl) ?_
  refine E.gd (fun _ k => h.get h0 lf_RX6_22 dX6_readWord_20 fv_6_8 k) (fun hd6 => ?_)
  refine E.m (h.iconst (v := (1 : Int32)) dX6_readWord_23 (by decide)) ?_
  refine E.m (h.puti (hs2 hd6 (hW.clo 17 h0 rfl) (hW.clo 18 h0 rfl)) lp_RX6_155 rfl dX6_readWord_24) ?_
  refine E.nmM (fun M7 => ?_)
  refine E.m (h.iconst (v := (1 : Int32)) dX6_readWord_27 (by decide)) ?_
  refine E.m (h.istore_n dX6_readWord_28 (by decide) rfl) ?_
  refine E.m (h.sub [1, 0] rfl) ?_
  refine E.loop2 (fun k8 M9 => w M9 29 [(0, .ref t), (1, .int k8)] []) (fun k8 M9 => ?_) _ _ _
  unfold l_X6_readWord_29
  refine E.m (h.iload_n 1 dX6_readWord_29 rfl) ?_
  refine E.m (h.bipush (v := (16 : Int32)) dX6_readWord_30 (by decide)) ?_
  refine E.join0 (fun _ => w M9 78 [(0, .ref t), (1, .int k8)] []) (fun _ => ?_) (fun J78 hJ78 => ?_)
  · refine E.m (h.aload_n 0 dX6_readWord_78 rfl) ?_
    refine E.m (h.get h0 lf_RX6_58 dX6_readWord_79 fv_6_5) ?_
    refine E.m (h.iconst (v := (3 : Int32)) dX6_readWord_82 (by decide)) ?_
    refine E.join1 (fun M10 => w M10 91 [(0, .ref t), (1, .int k8)] []) (fun M10 => ?_) (fun J91 hJ91 => ?_)
    · exact E.some (ret_v hr dX6_readWord_91)
    refine E.br (fun k1 k2 => h.icmp_ne (tgt := 91) dX6_readWord_83 (by decide) k2 k1) ?_ ?_
    · refine E.m (h.aload_n 0 dX6_readWord_86 rfl) ?_
      refine E.m (h.iconst (v := (2 : Int32)) dX6_readWord_87 (by decide)) ?_
      refine E.bnd (fun _ M12 => w M12 91 [(0, .ref t), (1, .int k8)] []) (fun _ M12 hf k => h.callV (As := [.int (2 : Int32)]) (rest := []) (c_X6_fail hW h0 hf) lm_X6_fail lv_m_X6_fail ll_RX6_84 h0 lc_6 rfl rfl (Nat.le_of_ble_eq_true rfl) (by decide) dX6_readWord_88 rfl k) (fun _ M12 => ?_)
      exact hJ91 _
    · exact hJ91 _
  refine E.br (fun k1 k2 => h.icmp_ge (tgt := 78) dX6_readWord_32 (by decide) k1 k2) ?_ ?_
  · exact hJ78 ()
  · refine E.m (h.aload_n 0 dX6_readWord_35 rfl) ?_
    refine E.m (h.get h0 lf_RX6_58 dX6_readWord_36 fv_6_5) ?_
    refine E.m (h.iconst (v := (3 : Int32)) dX6_readWord_39 (by decide)) ?_
    refine E.br (fun k1 k2 => h.icmp_ne (tgt := 78) dX6_readWord_40 (by decide) k2 k1) ?_ ?_
    · refine E.m (h.aload_n 0 dX6_readWord_43 rfl) ?_
      refine E.gd (fun _ k => h.get h0 lf_RX6_22 dX6_readWord_44 fv_6_8 k) (fun hd13 => ?_)
      refine E.m (h.get (hs2 hd13 (hW.clo 17 h0 rfl) (hW.clo 18 h0 rfl)) lf_RX6_153 dX6_readWord_47 fv_3_8) ?_
      refine E.m (h.iload_n 1 dX6_readWord_50 rfl) ?_
      refine E.m (h.aload_n 0 dX6_readWord_51 rfl) ?_
      refine E.m (h.iconst (v := (0 : Int32)) dX6_readWord_52 (by decide)) ?_
      refine E.m (h.sipush (v := (255 : Int32)) dX6_readWord_53 (by decide)) ?_
      refine E.bnd (fun u14 M15 => w M15 59 [(0, .ref t), (1, .int k8)] [.int u14, .int k8, .ref (M9.2.2 1 + 1)]) (fun u14 M15 hf k => h.callV (As := [.int (0 : Int32), .int (255 : Int32)]) (rest := [.int k8, .ref (M9.2.2 1 + 1)]) (c_X6_passNumber hW h0 hf) lm_X6_passNumber lv_m_X6_passNumber ll_RX6_127 h0 lc_6 rfl rfl (Nat.le_of_ble_eq_true rfl) (by decide) dX6_readWord_56 rfl k) (fun u14 M15 => ?_)
      refine E.bnd (fun _ M17 => w M17 62 [(0, .ref t), (1, .int k8)] []) (fun _ M17 hf k => h.callSN (As := [.ref (M9.2.2 1 + 1), .int k8, .int u14]) (rest := []) (c_X10_put hW (hW.clo 9 (hs2 hd13 (hW.clo 17 h0 rfl) (hW.clo 18 h0 rfl)) rfl) hf) lm_X10_put ls_m_X10_put 11 rfl rfl rfl (Nat.le_of_ble_eq_true rfl) (by decide) dX6_readWord_59 rfl k) (fun _ M17 => ?_)
      refine E.m (h.aload_n 0 dX6_readWord_62 rfl) ?_
      refine E.gd (fun _ k => h.get h0 lf_RX6_22 dX6_readWord_63 fv_6_8 k) (fun hd18 => ?_)
      refine E.m (h.iload_n 1 dX6_readWord_66 rfl) ?_
      refine E.m (h.iconst (v := (1 : Int32)) dX6_readWord_67 (by decide)) ?_
      refine E.m (h.iadd dX6_readWord_68) ?_
      refine E.m (h.puti (hs2 hd18 (hW.clo 17 h0 rfl) (hW.clo 18 h0 rfl)) lp_RX6_155 rfl dX6_readWord_69) ?_
      refine E.nmM (fun M19 => ?_)
      refine E.m (h.iinc (v := (1 : Int32)) 1 dX6_readWord_72 rfl (by decide) (by decide) rfl) ?_
      refine E.nmL (fun y20 => ?_)
      refine E.m (h.goto (tgt := 29) dX6_readWord_75 (by decide)) ?_
      refine E.m (h.sub [1, 0] rfl) ?_
      exact E.some (fun q => q)
    · exact hJ78 ()
def f_X6_readSetting (t : Nat) (x1_ : Int32) (M : Mem) : Option (Unit × Mem) :=
  jn1 (fun M1 => some ((), M1)) (fun J157 => if x1_.toInt < 0 ∨ 5 < x1_.toInt then (bd (f_X6_readWord t M) (fun _ M3 => J157 M3)) else if x1_ = (0 : Int32) then (gdp (M.2.2 1 = t + 2 ∨ M.2.2 1 = t + 10) (bd (f_X6_passNumber t (1 : Int32) (8 : Int32) M) (fun u5 M6 => nm (wi M6 (M.2.2 1) 0 u5) (fun M7 => J157 M7)))) else if x1_ = (1 : Int32) then (gdp (M.2.2 1 = t + 2 ∨ M.2.2 1 = t + 10) (bd (f_X6_passNumber t (1 : Int32) (64 : Int32) M) (fun u9 M10 => nm (wi M10 (M.2.2 1) 1 u9) (fun M11 => J157 M11)))) else if x1_ = (2 : Int32) then (gdp (M.2.2 1 = t + 2 ∨ M.2.2 1 = t + 10) (bd (f_X6_passNumber t (0 : Int32) (9 : Int32) M) (fun u13 M14 => nm (wi M14 (M.2.2 1) 2 u13) (fun M15 => gdp (M15.2.2 1 = t + 2 ∨ M15.2.2 1 = t + 10) (bd (f_X6_passNumber t (0 : Int32) (9 : Int32) M15) (fun u17 M18 => nm (wi M18 (M15.2.2 1) 3 u17) (fun M19 => J157 M19))))))) else if x1_ = (3 : Int32) then (gdp (M.2.2 1 = t + 2 ∨ M.2.2 1 = t + 10) (bd (f_X6_passNumber t (1 : Int32) (16 : Int32) M) (fun u21 M22 => nm (wi M22 (M.2.2 1) 4 u21) (fun M23 => J157 M23)))) else if x1_ = (4 : Int32) then (gdp (M.2.2 1 = t + 2 ∨ M.2.2 1 = t + 10) (bd (f_X6_readOffset t M) (fun u25 M26 => nm (wi M26 (M.2.2 1) 5 u25) (fun M27 => J157 M27)))) else if x1_ = (5 : Int32) then (gdp (M.2.2 1 = t + 2 ∨ M.2.2 1 = t + 10) (bd (f_X6_passNumber t (1 : Int32) (8 : Int32) M) (fun u29 M30 => nm (wi M30 (M.2.2 1) 6 u29) (fun M31 => J157 M31)))) else none)
set_option maxRecDepth 20000 in
theorem c_X6_readSetting {G : Ctx} (hW : WFG G) {t : Nat} {x1_ : Int32} {M M' : Mem} (h0 : hs G t (0, 6)) (hf : f_X6_readSetting t x1_ M = some ((), M')) : Ct G yX6_readSetting cX6_readSetting 2 none 4 87 [.ref t, .int x1_] M none M' := by
  refine ct_v hW (by decide +kernel) (Nat.le_of_ble_eq_true rfl) (fun w h hr => ?_)
  have h : Rb G cX6_readSetting RX6 2 4 87 w := h
  refine (?_ : E (fun q => q = ((), M')) (f_X6_readSetting t x1_ M) (w M 0 [(0, .ref t), (1, .int x1_)] [])) _ hf rfl
  unfold f_X6_readSetting
  refine E.m (h.iload_n 1 dX6_readSetting_0 rfl) ?_
  refine E.join1 (fun M1 => w M1 157 [(0, .ref t), (1, .int x1_)] []) (fun M1 => ?_) (fun J157 hJ157 => ?_)
  · exact E.some (ret_v hr dX6_readSetting_157)
  refine E.sw (fun hc k => h.tabOut (tgt := 153) dX6_readSetting_1 hc (by decide) k) ?_ (fun hn => ?_)
  · refine E.m (h.aload_n 0 dX6_readSetting_153 rfl) ?_
    refine E.bnd (fun _ M3 => w M3 157 [(0, .ref t), (1, .int x1_)] []) (fun _ M3 hf k => h.callV (As := []) (rest := []) (c_X6_readWord hW h0 hf) lm_X6_readWord lv_m_X6_readWord ll_RX6_150 h0 lc_6 rfl rfl (Nat.le_of_ble_eq_true rfl) (by decide) dX6_readSetting_154 rfl k) (fun _ M3 => ?_)
    exact hJ157 _
  refine E.sw (fun hc k => h.tabIn (tgt := 40) dX6_readSetting_1 (by rw [hc]; decide) (by rw [hc]; decide) (by rw [hc]; rfl) (by decide) k) ?_ (fun _ => ?_)
  · refine E.m (h.aload_n 0 dX6_readSetting_40 rfl) ?_
    refine E.gd (fun _ k => h.get h0 lf_RX6_22 dX6_readSetting_41 fv_6_8 k) (fun hd4 => ?_)
    refine E.m (h.aload_n 0 dX6_readSetting_44 rfl) ?_
    refine E.m (h.iconst (v := (1 : Int32)) dX6_readSetting_45 (by decide)) ?_
    refine E.m (h.bipush (v := (8 : Int32)) dX6_readSetting_46 (by decide)) ?_
    refine E.bnd (fun u5 M6 => w M6 51 [(0, .ref t), (1, .int x1_)] [.int u5, .ref (M.2.2 1)]) (fun u5 M6 hf k => h.callV (As := [.int (1 : Int32), .int (8 : Int32)]) (rest := [.ref (M.2.2 1)]) (c_X6_passNumber hW h0 hf) lm_X6_passNumber lv_m_X6_passNumber ll_RX6_127 h0 lc_6 rfl rfl (Nat.le_of_ble_eq_true rfl) (by decide) dX6_readSetting_48 rfl k) (fun u5 M6 => ?_)
    refine E.m (h.puti (hs2 hd4 (hW.clo 17 h0 rfl) (hW.clo 18 h0 rfl)) lp_RX6_131 rfl dX6_readSetting_51) ?_
    refine E.nmM (fun M7 => ?_)
    refine E.m (h.goto (tgt := 157) dX6_readSetting_54 (by decide)) ?_
    exact hJ157 _
  refine E.sw (fun hc k => h.tabIn (tgt := 57) dX6_readSetting_1 (by rw [hc]; decide) (by rw [hc]; decide) (by rw [hc]; rfl) (by decide) k) ?_ (fun _ => ?_)
  · refine E.m (h.aload_n 0 dX6_readSetting_57 rfl) ?_
    refine E.gd (fun _ k => h.get h0 lf_RX6_22 dX6_readSetting_58 fv_6_8 k) (fun hd8 => ?_)
    refine E.m (h.aload_n 0 dX6_readSetting_61 rfl) ?_
    refine E.m (h.iconst (v := (1 : Int32)) dX6_readSetting_62 (by decide)) ?_
    refine E.m (h.bipush (v := (64 : Int32)) dX6_readSetting_63 (by decide)) ?_
    refine E.bnd (fun u9 M10 => w M10 68 [(0, .ref t), (1, .int x1_)] [.int u9, .ref (M.2.2 1)]) (fun u9 M10 hf k => h.callV (As := [.int (1 : Int32), .int (64 : Int32)]) (rest := [.ref (M.2.2 1)]) (c_X6_passNumber hW h0 hf) lm_X6_passNumber lv_m_X6_passNumber ll_RX6_127 h0 lc_6 rfl rfl (Nat.le_of_ble_eq_true rfl) (by decide) dX6_readSetting_65 rfl k) (fun u9 M10 => ?_)
    refine E.m (h.puti (hs2 hd8 (hW.clo 17 h0 rfl) (hW.clo 18 h0 rfl)) lp_RX6_133 rfl dX6_readSetting_68) ?_
    refine E.nmM (fun M11 => ?_)
    refine E.m (h.goto (tgt := 157) dX6_readSetting_71 (by decide)) ?_
    exact hJ157 _
  refine E.sw (fun hc k => h.tabIn (tgt := 74) dX6_readSetting_1 (by rw [hc]; decide) (by rw [hc]; decide) (by rw [hc]; rfl) (by decide) k) ?_ (fun _ => ?_)
  · refine E.m (h.aload_n 0 dX6_readSetting_74 rfl) ?_
    refine E.gd (fun _ k => h.get h0 lf_RX6_22 dX6_readSetting_75 fv_6_8 k) (fun hd12 => ?_)
    refine E.m (h.aload_n 0 dX6_readSetting_78 rfl) ?_
    refine E.m (h.iconst (v := (0 : Int32)) dX6_readSetting_79 (by decide)) ?_
    refine E.m (h.bipush (v := (9 : Int32)) dX6_readSetting_80 (by decide)) ?_
    refine E.bnd (fun u13 M14 => w M14 85 [(0, .ref t), (1, .int x1_)] [.int u13, .ref (M.2.2 1)]) (fun u13 M14 hf k => h.callV (As := [.int (0 : Int32), .int (9 : Int32)]) (rest := [.ref (M.2.2 1)]) (c_X6_passNumber hW h0 hf) lm_X6_passNumber lv_m_X6_passNumber ll_RX6_127 h0 lc_6 rfl rfl (Nat.le_of_ble_eq_true rfl) (by decide) dX6_readSetting_82 rfl k) (fun u13 M14 => ?_)
    refine E.m (h.puti (hs2 hd12 (hW.clo 17 h0 rfl) (hW.clo 18 h0 rfl)) lp_RX6_135 rfl dX6_readSetting_85) ?_
    refine E.nmM (fun M15 => ?_)
    refine E.m (h.aload_n 0 dX6_readSetting_88 rfl) ?_
    refine E.gd (fun _ k => h.get h0 lf_RX6_22 dX6_readSetting_89 fv_6_8 k) (fun hd16 => ?_)
    refine E.m (h.aload_n 0 dX6_readSetting_92 rfl) ?_
    refine E.m (h.iconst (v := (0 : Int32)) dX6_readSetting_93 (by decide)) ?_
    refine E.m (h.bipush (v := (9 : Int32)) dX6_readSetting_94 (by decide)) ?_
    refine E.bnd (fun u17 M18 => w M18 99 [(0, .ref t), (1, .int x1_)] [.int u17, .ref (M15.2.2 1)]) (fun u17 M18 hf k => h.callV (As := [.int (0 : Int32), .int (9 : Int32)]) (rest := [.ref (M15.2.2 1)]) (c_X6_passNumber hW h0 hf) lm_X6_passNumber lv_m_X6_passNumber ll_RX6_127 h0 lc_6 rfl rfl (Nat.le_of_ble_eq_true rfl) (by decide) dX6_readSetting_96 rfl k) (fun u17 M18 => ?_)
    refine E.m (h.puti (hs2 hd16 (hW.clo 17 h0 rfl) (hW.clo 18 h0 rfl)) lp_RX6_138 rfl dX6_readSetting_99) ?_
    refine E.nmM (fun M19 => ?_)
    refine E.m (h.goto (tgt := 157) dX6_readSetting_102 (by decide)) ?_
    exact hJ157 _
  refine E.sw (fun hc k => h.tabIn (tgt := 105) dX6_readSetting_1 (by rw [hc]; decide) (by rw [hc]; decide) (by rw [hc]; rfl) (by decide) k) ?_ (fun _ => ?_)
  · refine E.m (h.aload_n 0 dX6_readSetting_105 rfl) ?_
    refine E.gd (fun _ k => h.get h0 lf_RX6_22 dX6_readSetting_106 fv_6_8 k) (fun hd20 => ?_)
    refine E.m (h.aload_n 0 dX6_readSetting_109 rfl) ?_
    refine E.m (h.iconst (v := (1 : Int32)) dX6_readSetting_110 (by decide)) ?_
    refine E.m (h.bipush (v := (16 : Int32)) dX6_readSetting_111 (by decide)) ?_
    refine E.bnd (fun u21 M22 => w M22 116 [(0, .ref t), (1, .int x1_)] [.int u21, .ref (M.2.2 1)]) (fun u21 M22 hf k => h.callV (As := [.int (1 : Int32), .int (16 : Int32)]) (rest := [.ref (M.2.2 1)]) (c_X6_passNumber hW h0 hf) lm_X6_passNumber lv_m_X6_passNumber ll_RX6_127 h0 lc_6 rfl rfl (Nat.le_of_ble_eq_true rfl) (by decide) dX6_readSetting_113 rfl k) (fun u21 M22 => ?_)
    refine E.m (h.puti (hs2 hd20 (hW.clo 17 h0 rfl) (hW.clo 18 h0 rfl)) lp_RX6_141 rfl dX6_readSetting_116) ?_
    refine E.nmM (fun M23 => ?_)
    refine E.m (h.goto (tgt := 157) dX6_readSetting_119 (by decide)) ?_
    exact hJ157 _
  refine E.sw (fun hc k => h.tabIn (tgt := 122) dX6_readSetting_1 (by rw [hc]; decide) (by rw [hc]; decide) (by rw [hc]; rfl) (by decide) k) ?_ (fun _ => ?_)
  · refine E.m (h.aload_n 0 dX6_readSetting_122 rfl) ?_
    refine E.gd (fun _ k => h.get h0 lf_RX6_22 dX6_readSetting_123 fv_6_8 k) (fun hd24 => ?_)
    refine E.m (h.aload_n 0 dX6_readSetting_126 rfl) ?_
    refine E.bnd (fun u25 M26 => w M26 130 [(0, .ref t), (1, .int x1_)] [.int u25, .ref (M.2.2 1)]) (fun u25 M26 hf k => h.callV (As := []) (rest := [.ref (M.2.2 1)]) (c_X6_readOffset hW h0 hf) lm_X6_readOffset lv_m_X6_readOffset ll_RX6_143 h0 lc_6 rfl rfl (Nat.le_of_ble_eq_true rfl) (by decide) dX6_readSetting_127 rfl k) (fun u25 M26 => ?_)
    refine E.m (h.puti (hs2 hd24 (hW.clo 17 h0 rfl) (hW.clo 18 h0 rfl)) lp_RX6_146 rfl dX6_readSetting_130) ?_
    refine E.nmM (fun M27 => ?_)
    refine E.m (h.goto (tgt := 157) dX6_readSetting_133 (by decide)) ?_
    exact hJ157 _
  refine E.sw (fun hc k => h.tabIn (tgt := 136) dX6_readSetting_1 (by rw [hc]; decide) (by rw [hc]; decide) (by rw [hc]; rfl) (by decide) k) ?_ (fun _ => ?_)
  · refine E.m (h.aload_n 0 dX6_readSetting_136 rfl) ?_
    refine E.gd (fun _ k => h.get h0 lf_RX6_22 dX6_readSetting_137 fv_6_8 k) (fun hd28 => ?_)
    refine E.m (h.aload_n 0 dX6_readSetting_140 rfl) ?_
    refine E.m (h.iconst (v := (1 : Int32)) dX6_readSetting_141 (by decide)) ?_
    refine E.m (h.bipush (v := (8 : Int32)) dX6_readSetting_142 (by decide)) ?_
    refine E.bnd (fun u29 M30 => w M30 147 [(0, .ref t), (1, .int x1_)] [.int u29, .ref (M.2.2 1)]) (fun u29 M30 hf k => h.callV (As := [.int (1 : Int32), .int (8 : Int32)]) (rest := [.ref (M.2.2 1)]) (c_X6_passNumber hW h0 hf) lm_X6_passNumber lv_m_X6_passNumber ll_RX6_127 h0 lc_6 rfl rfl (Nat.le_of_ble_eq_true rfl) (by decide) dX6_readSetting_144 rfl k) (fun u29 M30 => ?_)
    refine E.m (h.puti (hs2 hd28 (hW.clo 17 h0 rfl) (hW.clo 18 h0 rfl)) lp_RX6_148 rfl dX6_readSetting_147) ?_
    refine E.nmM (fun M31 => ?_)
    refine E.m (h.goto (tgt := 157) dX6_readSetting_150 (by decide)) ?_
    exact hJ157 _
  exact E.none
def f_X6_readClause (t : Nat) (M : Mem) : Option (Unit × Mem) :=
  bd (f_X6_clauseHere t M) (fun u1 M2 => if u1 = (-1 : Int32) then (bd (f_X6_fail t (1 : Int32) M2) (fun _ M20 => some ((), M20))) else (if (((M2.1 t 10) >>> (u1 &&& 31)) &&& (1 : Int32)) = 0 then (nm (wi M2 t 10 ((M2.1 t 10) ||| ((1 : Int32) <<< (u1 &&& 31)))) (fun M3 => bd (f_X6_advance t M3) (fun _ M5 => jn1 (fun M6 => bd (f_X6_passSign t (59 : Int32) M6) (fun _ M8 => some ((), M8))) (fun J102 => jn0 (fun _ => jn1 (fun z9 => nm (wd M5 2 z9) (fun M10 => bd (f_X6_readExpr 80 t (0 : Int32) (0 : Int32) M10) (fun _ M12 => J102 M12))) (fun J85 => if u1 = (7 : Int32) then (gdp (M5.2.2 1 = t + 2 ∨ M5.2.2 1 = t + 10) (J85 (M5.2.2 1 + 2))) else (gdp (M5.2.2 1 = t + 2 ∨ M5.2.2 1 = t + 10) (J85 (M5.2.2 1 + 5))))) (fun J61 => if u1 = (7 : Int32) then (J61 ()) else (if u1 = (8 : Int32) then (J61 ()) else (bd (f_X6_readSetting t u1 M5) (fun _ M16 => J102 M16)))))))) else (bd (f_X6_fail t (5 : Int32) M2) (fun _ M18 => some ((), M18)))))
set_option maxRecDepth 20000 in
theorem c_X6_readClause {G : Ctx} (hW : WFG G) {t : Nat} {M M' : Mem} (h0 : hs G t (0, 6)) (hf : f_X6_readClause t M = some ((), M')) : Ct G yX6_readClause cX6_readClause 2 none 95 5269 [.ref t] M none M' := by
  refine ct_v hW (by decide +kernel) (Nat.le_of_ble_eq_true rfl) (fun w h hr => ?_)
  have h : Rb G cX6_readClause RX6 2 95 5269 w := h
  refine (?_ : E (fun q => q = ((), M')) (f_X6_readClause t M) (w M 0 [(0, .ref t)] [])) _ hf rfl
  unfold f_X6_readClause
  refine E.m (h.aload_n 0 dX6_readClause_0 rfl) ?_
  refine E.bnd (fun u1 M2 => w M2 4 [(0, .ref t)] [.int u1]) (fun u1 M2 hf k => h.callV (As := []) (rest := []) (c_X6_clauseHere hW h0 hf) lm_X6_clauseHere lv_m_X6_clauseHere ll_RX6_112 h0 lc_6 rfl rfl (Nat.le_of_ble_eq_true rfl) (by decide) dX6_readClause_1 rfl k) (fun u1 M2 => ?_)
  refine E.m (h.istore_n dX6_readClause_4 (by decide) rfl) ?_
  refine E.m (h.iload_n 0 dX6_readClause_5 rfl) ?_
  refine E.m (h.iconst (v := (-1 : Int32)) dX6_readClause_6 (by decide)) ?_
  refine E.br (fun k1 k2 => h.icmp_ne (tgt := 16) dX6_readClause_7 (by decide) k2 k1) ?_ ?_
  · refine E.m (h.aload_n 1 dX6_readClause_10 rfl) ?_
    refine E.m (h.iconst (v := (1 : Int32)) dX6_readClause_11 (by decide)) ?_
    refine E.bnd (fun _ M20 => w M20 15 [(1, .int u1), (0, .ref t)] []) (fun _ M20 hf k => h.callV (As := [.int (1 : Int32)]) (rest := []) (c_X6_fail hW h0 hf) lm_X6_fail lv_m_X6_fail ll_RX6_84 h0 lc_6 rfl rfl (Nat.le_of_ble_eq_true rfl) (by decide) dX6_readClause_12 rfl k) (fun _ M20 => ?_)
    exact E.some (ret_v hr dX6_readClause_15)
  · refine E.m (h.aload_n 1 dX6_readClause_16 rfl) ?_
    refine E.m (h.get h0 lf_RX6_49 dX6_readClause_17 fv_6_10) ?_
    refine E.m (h.iload_n 0 dX6_readClause_20 rfl) ?_
    refine E.m (h.ishr dX6_readClause_21) ?_
    refine E.m (h.iconst (v := (1 : Int32)) dX6_readClause_22 (by decide)) ?_
    refine E.m (h.iand dX6_readClause_23) ?_
    refine E.br (fun k1 k2 => h.if_eq (tgt := 33) dX6_readClause_24 (by decide) k1 k2) ?_ ?_
    · refine E.m (h.aload_n 1 dX6_readClause_33 rfl) ?_
      refine E.m (h.dup dX6_readClause_34 rfl) ?_
      refine E.m (h.get h0 lf_RX6_49 dX6_readClause_35 fv_6_10) ?_
      refine E.m (h.iconst (v := (1 : Int32)) dX6_readClause_38 (by decide)) ?_
      refine E.m (h.iload_n 0 dX6_readClause_39 rfl) ?_
      refine E.m (h.ishl dX6_readClause_40) ?_
      refine E.m (h.ior dX6_readClause_41) ?_
      refine E.m (h.puti h0 lp_RX6_49 rfl dX6_readClause_42) ?_
      refine E.nmM (fun M3 => ?_)
      refine E.m (h.aload_n 1 dX6_readClause_45 rfl) ?_
      refine E.bnd (fun _ M5 => w M5 49 [(1, .int u1), (0, .ref t)] []) (fun _ M5 hf k => h.callV (As := []) (rest := []) (c_X6_advance hW h0 hf) lm_X6_advance lv_m_X6_advance ll_RX6_55 h0 lc_6 rfl rfl (Nat.le_of_ble_eq_true rfl) (by decide) dX6_readClause_46 rfl k) (fun _ M5 => ?_)
      refine E.m (h.iload_n 0 dX6_readClause_49 rfl) ?_
      refine E.m (h.bipush (v := (7 : Int32)) dX6_readClause_50 (by decide)) ?_
      refine E.join1 (fun M6 => w M6 102 [(0, .ref t), (1, .int u1)] []) (fun M6 => ?_) (fun J102 hJ102 => ?_)
      · refine E.m (h.aload_n 0 dX6_readClause_102 rfl) ?_
        refine E.m (h.bipush (v := (59 : Int32)) dX6_readClause_103 (by decide)) ?_
        refine E.bnd (fun _ M8 => w M8 108 [(0, .ref t), (1, .int u1)] []) (fun _ M8 hf k => h.callV (As := [.int (59 : Int32)]) (rest := []) (c_X6_passSign hW h0 hf) lm_X6_passSign lv_m_X6_passSign ll_RX6_124 h0 lc_6 rfl rfl (Nat.le_of_ble_eq_true rfl) (by decide) dX6_readClause_105 rfl k) (fun _ M8 => ?_)
        exact E.some (ret_v hr dX6_readClause_108)
      refine E.join0 (fun _ => w M5 61 [(0, .ref t), (1, .int u1)] []) (fun _ => ?_) (fun J61 hJ61 => ?_)
      · refine E.m (h.aload_n 0 dX6_readClause_61 rfl) ?_
        refine E.m (h.iload_n 1 dX6_readClause_62 rfl) ?_
        refine E.m (h.bipush (v := (7 : Int32)) dX6_readClause_63 (by decide)) ?_
        refine E.join1 (fun z9 => hs G z9 (0, 7) → w M5 85 [(0, .ref t), (1, .int u1)] [.ref z9, .ref t]) (fun z9 => ?_) (fun J85 hJ85 => ?_)
        · refine E.imp fun hz_z9 => ?_
          refine E.m (h.putd h0 (by decide) lp_RX6_30 rfl (by decide) (by decide) dX6_readClause_85) ?_
          refine E.nmM (fun M10 => ?_)
          refine E.m (h.aload_n 0 dX6_readClause_88 rfl) ?_
          refine E.m (h.iconst (v := (0 : Int32)) dX6_readClause_89 (by decide)) ?_
          refine E.m (h.iconst (v := (0 : Int32)) dX6_readClause_90 (by decide)) ?_
          refine E.bnd (fun _ M12 => w M12 94 [(0, .ref t), (1, .int u1)] []) (fun _ M12 hf k => h.callV (As := [.int (0 : Int32), .int (0 : Int32)]) (rest := []) (c_X6_readExpr (d := 80) hW h0 hf) lm_X6_readExpr lv_m_X6_readExpr ll_RX6_117 h0 lc_6 rfl rfl (Nat.le_of_ble_eq_true rfl) (by decide) dX6_readClause_91 rfl k) (fun _ M12 => ?_)
          refine E.m (h.goto (tgt := 102) dX6_readClause_94 (by decide)) ?_
          exact hJ102 _
        refine E.br (fun k1 k2 => h.icmp_ne (tgt := 78) dX6_readClause_65 (by decide) k2 k1) ?_ ?_
        · refine E.m (h.aload_n 0 dX6_readClause_68 rfl) ?_
          refine E.gd (fun _ k => h.get h0 lf_RX6_22 dX6_readClause_69 fv_6_8 k) (fun hd14 => ?_)
          refine E.m (h.get (hs2 hd14 (hW.clo 17 h0 rfl) (hW.clo 18 h0 rfl)) lf_RX6_26 dX6_readClause_72 fv_3_9) ?_
          refine E.m (h.goto (tgt := 85) dX6_readClause_75 (by decide)) ?_
          exact E.m (fun k => k (hW.clo 10 (hs2 hd14 (hW.clo 17 h0 rfl) (hW.clo 18 h0 rfl)) rfl)) (hJ85 _)
        · refine E.m (h.aload_n 0 dX6_readClause_78 rfl) ?_
          refine E.gd (fun _ k => h.get h0 lf_RX6_22 dX6_readClause_79 fv_6_8 k) (fun hd13 => ?_)
          refine E.m (h.get (hs2 hd13 (hW.clo 17 h0 rfl) (hW.clo 18 h0 rfl)) lf_RX6_115 dX6_readClause_82 fv_3_10) ?_
          exact E.m (fun k => k (hW.clo 11 (hs2 hd13 (hW.clo 17 h0 rfl) (hW.clo 18 h0 rfl)) rfl)) (hJ85 _)
      refine E.br (fun k1 k2 => h.icmp_eq (tgt := 61) dX6_readClause_52 (by decide) k1 k2) ?_ ?_
      · refine E.m (h.sub [1, 0] rfl) ?_
        exact hJ61 ()
      · refine E.m (h.iload_n 0 dX6_readClause_55 rfl) ?_
        refine E.m (h.bipush (v := (8 : Int32)) dX6_readClause_56 (by decide)) ?_
        refine E.br (fun k1 k2 => h.icmp_ne (tgt := 97) dX6_readClause_58 (by decide) k2 k1) ?_ ?_
        · refine E.m (h.sub [1, 0] rfl) ?_
          exact hJ61 ()
        · refine E.m (h.aload_n 1 dX6_readClause_97 rfl) ?_
          refine E.m (h.iload_n 0 dX6_readClause_98 rfl) ?_
          refine E.bnd (fun _ M16 => w M16 102 [(1, .int u1), (0, .ref t)] []) (fun _ M16 hf k => h.callV (As := [.int u1]) (rest := []) (c_X6_readSetting hW h0 hf) lm_X6_readSetting lv_m_X6_readSetting ll_RX6_121 h0 lc_6 rfl rfl (Nat.le_of_ble_eq_true rfl) (by decide) dX6_readClause_99 rfl k) (fun _ M16 => ?_)
          refine E.m (h.sub [1, 0] rfl) ?_
          exact hJ102 _
    · refine E.m (h.aload_n 1 dX6_readClause_27 rfl) ?_
      refine E.m (h.iconst (v := (5 : Int32)) dX6_readClause_28 (by decide)) ?_
      refine E.bnd (fun _ M18 => w M18 32 [(1, .int u1), (0, .ref t)] []) (fun _ M18 hf k => h.callV (As := [.int (5 : Int32)]) (rest := []) (c_X6_fail hW h0 hf) lm_X6_fail lv_m_X6_fail ll_RX6_84 h0 lc_6 rfl rfl (Nat.le_of_ble_eq_true rfl) (by decide) dX6_readClause_29 rfl k) (fun _ M18 => ?_)
      exact E.some (ret_v hr dX6_readClause_32)
def l_X6_read_43 (t : Nat) (k12 : Int32) (M13 : Mem) : Option ((Int32 × Mem) ⊕ (Int32 × Mem)) :=
  jn0 (fun _ => some (.inr (M13.1 t 6, M13))) (fun J75 => if (700 : Int32) < k12 then (J75 ()) else (if (M13.1 t 5) = 0 then (J75 ()) else (if (M13.1 t 5) = (-1 : Int32) then (J75 ()) else (bd (f_X6_readClause t M13) (fun _ M15 => nm (k12 + (1 : Int32)) (fun y16 => some (.inl (y16, M15))))))))
def f_X6_read (t : Nat) (x1_ : Int32) (M : Mem) : Option (Int32 × Mem) :=
  nm (wi M t 2 x1_) (fun M1 => nm (wi M1 t 1 (0 : Int32)) (fun M2 => nm (wi M2 t 3 (0 : Int32)) (fun M3 => nm (wi M3 t 6 (0 : Int32)) (fun M4 => nm (wi M4 t 7 (-1 : Int32)) (fun M5 => nm (wi M5 t 10 (0 : Int32)) (fun M6 => gdp (M6.2.2 1 = t + 2 ∨ M6.2.2 1 = t + 10) (bd (f_X3_clear (M6.2.2 1) M6) (fun _ M9 => bd (f_X6_advance t M9) (fun _ M11 => lop2 FU (l_X6_read_43 t) (0 : Int32) M11)))))))))
set_option maxRecDepth 20000 in
theorem c_X6_read {G : Ctx} (hW : WFG G) {t : Nat} {x1_ : Int32} {M M' : Mem} {r : Int32} (h0 : hs G t (0, 6)) (hf : f_X6_read t x1_ M = some (r, M')) : Ct G yX6_read cX6_read 3 (some .int) 96 5290 [.ref t, .int x1_] M (some (.int r)) M' := by
  refine ct_i hW (by decide +kernel) (Nat.le_of_ble_eq_true rfl) (fun w h hr => ?_)
  have h : Rb G cX6_read RX6 3 96 5290 w := h
  refine (?_ : E (fun q => q = (r, M')) (f_X6_read t x1_ M) (w M 0 [(0, .ref t), (1, .int x1_)] [])) _ hf rfl
  unfold f_X6_read
  refine E.m (h.aload_n 0 dX6_read_0 rfl) ?_
  refine E.m (h.iload_n 1 dX6_read_1 rfl) ?_
  refine E.m (h.puti h0 lp_RX6_40 rfl dX6_read_2) ?_
  refine E.nmM (fun M1 => ?_)
  refine E.m (h.aload_n 0 dX6_read_5 rfl) ?_
  refine E.m (h.iconst (v := (0 : Int32)) dX6_read_6 (by decide)) ?_
  refine E.m (h.puti h0 lp_RX6_33 rfl dX6_read_7) ?_
  refine E.nmM (fun M2 => ?_)
  refine E.m (h.aload_n 0 dX6_read_10 rfl) ?_
  refine E.m (h.iconst (v := (0 : Int32)) dX6_read_11 (by decide)) ?_
  refine E.m (h.puti h0 lp_RX6_43 rfl dX6_read_12) ?_
  refine E.nmM (fun M3 => ?_)
  refine E.m (h.aload_n 0 dX6_read_15 rfl) ?_
  refine E.m (h.iconst (v := (0 : Int32)) dX6_read_16 (by decide)) ?_
  refine E.m (h.puti h0 lp_RX6_46 rfl dX6_read_17) ?_
  refine E.nmM (fun M4 => ?_)
  refine E.m (h.aload_n 0 dX6_read_20 rfl) ?_
  refine E.m (h.iconst (v := (-1 : Int32)) dX6_read_21 (by decide)) ?_
  refine E.m (h.puti h0 lp_RX6_15 rfl dX6_read_22) ?_
  refine E.nmM (fun M5 => ?_)
  refine E.m (h.aload_n 0 dX6_read_25 rfl) ?_
  refine E.m (h.iconst (v := (0 : Int32)) dX6_read_26 (by decide)) ?_
  refine E.m (h.puti h0 lp_RX6_49 rfl dX6_read_27) ?_
  refine E.nmM (fun M6 => ?_)
  refine E.m (h.aload_n 0 dX6_read_30 rfl) ?_
  refine E.gd (fun _ k => h.get h0 lf_RX6_22 dX6_read_31 fv_6_8 k) (fun hd7 => ?_)
  refine E.bnd (fun _ M9 => w M9 37 [(0, .ref t), (1, .int x1_)] []) (fun _ M9 hf k => h.callV (As := []) (rest := []) (c_X3_clear hW (hs2 hd7 (hW.clo 17 h0 rfl) (hW.clo 18 h0 rfl)) hf) lm_X3_clear lv_m_X3_clear ll_RX6_52 (hs2 hd7 (hW.clo 17 h0 rfl) (hW.clo 18 h0 rfl)) lc_3 rfl rfl (Nat.le_of_ble_eq_true rfl) (by decide) dX6_read_34 rfl k) (fun _ M9 => ?_)
  refine E.m (h.aload_n 0 dX6_read_37 rfl) ?_
  refine E.bnd (fun _ M11 => w M11 41 [(0, .ref t), (1, .int x1_)] []) (fun _ M11 hf k => h.callV (As := []) (rest := []) (c_X6_advance hW h0 hf) lm_X6_advance lv_m_X6_advance ll_RX6_55 h0 lc_6 rfl rfl (Nat.le_of_ble_eq_true rfl) (by decide) dX6_read_38 rfl k) (fun _ M11 => ?_)
  refine E.m (h.iconst (v := (0 : Int32)) dX6_read_41 (by decide)) ?_
  refine E.m (h.istore_n dX6_read_42 (by decide) rfl) ?_
  refine E.m (h.sub [1, 2, 0] rfl) ?_
  refine E.loop2 (fun k12 M13 => w M13 43 [(0, .ref t), (1, .int x1_), (2, .int k12)] []) (fun k12 M13 => ?_) _ _ _
  unfold l_X6_read_43
  refine E.m (h.iload_n 2 dX6_read_43 rfl) ?_
  refine E.m (h.sipush (v := (700 : Int32)) dX6_read_44 (by decide)) ?_
  refine E.join0 (fun _ => w M13 75 [(0, .ref t), (1, .int x1_), (2, .int k12)] []) (fun _ => ?_) (fun J75 hJ75 => ?_)
  · refine E.m (h.aload_n 0 dX6_read_75 rfl) ?_
    refine E.m (h.get h0 lf_RX6_46 dX6_read_76 fv_6_6) ?_
    exact E.some (ret_i hr rfl dX6_read_79)
  refine E.br (fun k1 k2 => h.icmp_gt (tgt := 75) dX6_read_47 (by decide) k1 k2) ?_ ?_
  · exact hJ75 ()
  · refine E.m (h.aload_n 0 dX6_read_50 rfl) ?_
    refine E.m (h.get h0 lf_RX6_58 dX6_read_51 fv_6_5) ?_
    refine E.br (fun k1 k2 => h.if_eq (tgt := 75) dX6_read_54 (by decide) k1 k2) ?_ ?_
    · exact hJ75 ()
    · refine E.m (h.aload_n 0 dX6_read_57 rfl) ?_
      refine E.m (h.get h0 lf_RX6_58 dX6_read_58 fv_6_5) ?_
      refine E.m (h.iconst (v := (-1 : Int32)) dX6_read_61 (by decide)) ?_
      refine E.br (fun k1 k2 => h.icmp_eq (tgt := 75) dX6_read_62 (by decide) k1 k2) ?_ ?_
      · exact hJ75 ()
      · refine E.m (h.aload_n 0 dX6_read_65 rfl) ?_
        refine E.bnd (fun _ M15 => w M15 69 [(0, .ref t), (1, .int x1_), (2, .int k12)] []) (fun _ M15 hf k => h.callV (As := []) (rest := []) (c_X6_readClause hW h0 hf) lm_X6_readClause lv_m_X6_readClause ll_RX6_61 h0 lc_6 rfl rfl (Nat.le_of_ble_eq_true rfl) (by decide) dX6_read_66 rfl k) (fun _ M15 => ?_)
        refine E.m (h.iinc (v := (1 : Int32)) 2 dX6_read_69 rfl (by decide) (by decide) rfl) ?_
        refine E.nmL (fun y16 => ?_)
        refine E.m (h.goto (tgt := 43) dX6_read_72 (by decide)) ?_
        refine E.m (h.sub [1, 2, 0] rfl) ?_
        exact E.some (fun q => q)
