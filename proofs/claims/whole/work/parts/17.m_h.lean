theorem lp_RX10_19 : FP RX10 19 10 1 (.object "CircuitCells$Line") := ⟨_, _, _, rfl, rfl, by decide, gin 618 (by decide +kernel) rfl, rfl, by decide +kernel⟩
theorem lm_X8_begin : lkM yX8_begin cX8_begin 2 none 1 := ⟨gin 585 (by decide +kernel) rfl, gin 94 (by decide +kernel) rfl, by decide +kernel⟩
theorem lv_m_X8_begin : Cond.instanceMethod yX8_begin ∈ gw ∧ Cond.selects (yX8_begin).cls yX8_begin yX8_begin ∈ gw := ⟨gin 583 (by decide +kernel) rfl, gin 584 (by decide +kernel) rfl⟩
theorem ll_RX10_40 : Cond.methodLink RX10 40 yX8_begin ∈ gw := gin 582 (by decide +kernel) rfl
theorem lm_X6_exchange : lkM yX6_exchange cX6_exchange 3 (some (.object "CircuitCells$Line")) 1 := ⟨gin 1118 (by decide +kernel) rfl, gin 91 (by decide +kernel) rfl, by decide +kernel⟩
theorem lv_m_X6_exchange : Cond.instanceMethod yX6_exchange ∈ gw ∧ Cond.selects (yX6_exchange).cls yX6_exchange yX6_exchange ∈ gw := ⟨gin 1116 (by decide +kernel) rfl, gin 1117 (by decide +kernel) rfl⟩
theorem ll_RX10_66 : Cond.methodLink RX10 66 yX6_exchange ∈ gw := gin 1115 (by decide +kernel) rfl
theorem lm_X6_read : lkM yX6_read cX6_read 3 (some .int) 1 := ⟨gin 977 (by decide +kernel) rfl, gin 91 (by decide +kernel) rfl, by decide +kernel⟩
theorem lv_m_X6_read : Cond.instanceMethod yX6_read ∈ gw ∧ Cond.selects (yX6_read).cls yX6_read yX6_read ∈ gw := ⟨gin 975 (by decide +kernel) rfl, gin 976 (by decide +kernel) rfl⟩
theorem ll_RX10_59 : Cond.methodLink RX10 59 yX6_read ∈ gw := gin 974 (by decide +kernel) rfl
theorem lf_RX10_90 : FL RX10 90 1 2 := ⟨_, _, _, rfl, rfl, by decide, gin 288 (by decide +kernel) rfl⟩
theorem lf_RX10_95 : FL RX10 95 1 3 := ⟨_, _, _, rfl, rfl, by decide, gin 290 (by decide +kernel) rfl⟩
theorem lf_RX10_98 : FL RX10 98 1 4 := ⟨_, _, _, rfl, rfl, by decide, gin 292 (by decide +kernel) rfl⟩
theorem lf_RX10_101 : FL RX10 101 1 8 := ⟨_, _, _, rfl, rfl, by decide, gin 304 (by decide +kernel) rfl⟩
theorem lf_RX10_108 : FL RX10 108 5 10 := ⟨_, _, _, rfl, rfl, by decide, gin 465 (by decide +kernel) rfl⟩
theorem lf_RX10_114 : FL RX10 114 0 1 := ⟨_, _, _, rfl, rfl, by decide, gin 364 (by decide +kernel) rfl⟩
theorem lf_RX10_119 : FL RX10 119 0 2 := ⟨_, _, _, rfl, rfl, by decide, gin 367 (by decide +kernel) rfl⟩
theorem lf_RX10_122 : FL RX10 122 5 11 := ⟨_, _, _, rfl, rfl, by decide, gin 468 (by decide +kernel) rfl⟩
theorem lf_RX10_126 : FL RX10 126 4 0 := ⟨_, _, _, rfl, rfl, by decide, gin 408 (by decide +kernel) rfl⟩
theorem lf_RX10_131 : FL RX10 131 4 1 := ⟨_, _, _, rfl, rfl, by decide, gin 411 (by decide +kernel) rfl⟩
theorem lf_RX10_134 : FL RX10 134 3 0 := ⟨_, _, _, rfl, rfl, by decide, gin 165 (by decide +kernel) rfl⟩
theorem ll_RX10_137 : Cond.methodLink RX10 137 yX5_level ∈ gw := gin 1127 (by decide +kernel) rfl
theorem lf_RX10_140 : FL RX10 140 5 0 := ⟨_, _, _, rfl, rfl, by decide, gin 438 (by decide +kernel) rfl⟩
theorem lf_RX10_143 : FL RX10 143 5 7 := ⟨_, _, _, rfl, rfl, by decide, gin 456 (by decide +kernel) rfl⟩
theorem lf_RX10_146 : FL RX10 146 5 6 := ⟨_, _, _, rfl, rfl, by decide, gin 453 (by decide +kernel) rfl⟩
theorem lm_X5_regained : lkM yX5_regained cX5_regained 2 (some .int) 1 := ⟨gin 1131 (by decide +kernel) rfl, gin 97 (by decide +kernel) rfl, by decide +kernel⟩
theorem lv_m_X5_regained : Cond.instanceMethod yX5_regained ∈ gw ∧ Cond.selects (yX5_regained).cls yX5_regained yX5_regained ∈ gw := ⟨gin 1129 (by decide +kernel) rfl, gin 1130 (by decide +kernel) rfl⟩
theorem ll_RX10_149 : Cond.methodLink RX10 149 yX5_regained ∈ gw := gin 1128 (by decide +kernel) rfl
theorem lf_RX10_152 : FL RX10 152 5 9 := ⟨_, _, _, rfl, rfl, by decide, gin 461 (by decide +kernel) rfl⟩
theorem lf_RX10_155 : FL RX10 155 4 2 := ⟨_, _, _, rfl, rfl, by decide, gin 413 (by decide +kernel) rfl⟩
theorem ll_RX10_158 : Cond.methodLink RX10 158 yX4_samplesKept ∈ gw := gin 1137 (by decide +kernel) rfl
theorem lf_RX10_162 : FL RX10 162 8 2 := ⟨_, _, _, rfl, rfl, by decide, gin 514 (by decide +kernel) rfl⟩
theorem lf_RX10_168 : FL RX10 168 8 8 := ⟨_, _, _, rfl, rfl, by decide, gin 522 (by decide +kernel) rfl⟩
theorem ll_RX10_172 : Cond.methodLink RX10 172 yX10_at ∈ gw := gin 1141 (by decide +kernel) rfl
theorem lf_RX10_184 : FL RX10 184 3 2 := ⟨_, _, _, rfl, rfl, by decide, gin 174 (by decide +kernel) rfl⟩
theorem lf_RX10_187 : FL RX10 187 3 3 := ⟨_, _, _, rfl, rfl, by decide, gin 178 (by decide +kernel) rfl⟩
theorem lf_RX10_190 : FL RX10 190 3 4 := ⟨_, _, _, rfl, rfl, by decide, gin 181 (by decide +kernel) rfl⟩
theorem lf_RX10_196 : FL RX10 196 3 6 := ⟨_, _, _, rfl, rfl, by decide, gin 188 (by decide +kernel) rfl⟩
theorem lf_RX10_199 : FL RX10 199 3 7 := ⟨_, _, _, rfl, rfl, by decide, gin 192 (by decide +kernel) rfl⟩
theorem lf_RX10_211 : FL RX10 211 1 1 := ⟨_, _, _, rfl, rfl, by decide, gin 286 (by decide +kernel) rfl⟩
theorem lf_RX10_214 : FL RX10 214 5 5 := ⟨_, _, _, rfl, rfl, by decide, gin 451 (by decide +kernel) rfl⟩
theorem lf_RX10_215 : FL RX10 215 0 0 := ⟨_, _, _, rfl, rfl, by decide, gin 360 (by decide +kernel) rfl⟩
theorem ll_RX10_216 : Cond.methodLink RX10 216 yX10_mod ∈ gw := gin 1165 (by decide +kernel) rfl
theorem lf_RX10_220 : FL RX10 220 5 8 := ⟨_, _, _, rfl, rfl, by decide, gin 458 (by decide +kernel) rfl⟩
theorem lf_RX10_233 : FL RX10 233 1 11 := ⟨_, _, _, rfl, rfl, by decide, gin 313 (by decide +kernel) rfl⟩
theorem lf_RX10_230 : FL RX10 230 1 10 := ⟨_, _, _, rfl, rfl, by decide, gin 310 (by decide +kernel) rfl⟩
theorem lf_RX10_227 : FL RX10 227 1 9 := ⟨_, _, _, rfl, rfl, by decide, gin 307 (by decide +kernel) rfl⟩
theorem lm_X0_waiting : lkM yX0_waiting cX0_waiting 4 (some .int) 2 := ⟨gin 1186 (by decide +kernel) rfl, gin 98 (by decide +kernel) rfl, by decide +kernel⟩
theorem lv_m_X0_waiting : Cond.instanceMethod yX0_waiting ∈ gw ∧ Cond.selects (yX0_waiting).cls yX0_waiting yX0_waiting ∈ gw := ⟨gin 1184 (by decide +kernel) rfl, gin 1185 (by decide +kernel) rfl⟩
theorem ll_RX10_238 : Cond.methodLink RX10 238 yX0_waiting ∈ gw := gin 1183 (by decide +kernel) rfl
theorem ll_RX10_249 : Cond.methodLink RX10 249 yX4_latestIsFilled ∈ gw := gin 1197 (by decide +kernel) rfl
theorem ll_RX10_246 : Cond.methodLink RX10 246 yX4_latest ∈ gw := gin 1196 (by decide +kernel) rfl
theorem ll_RX10_241 : Cond.methodLink RX10 241 yX4_octetsKept ∈ gw := gin 1194 (by decide +kernel) rfl
theorem lm_X4_longRows : lkM yX4_longRows cX4_longRows 6 (some .int) 2 := ⟨gin 1212 (by decide +kernel) rfl, gin 99 (by decide +kernel) rfl, by decide +kernel⟩
theorem lv_m_X4_longRows : Cond.instanceMethod yX4_longRows ∈ gw ∧ Cond.selects (yX4_longRows).cls yX4_longRows yX4_longRows ∈ gw := ⟨gin 1210 (by decide +kernel) rfl, gin 1211 (by decide +kernel) rfl⟩
theorem ll_RX10_255 : Cond.methodLink RX10 255 yX4_longRows ∈ gw := gin 1209 (by decide +kernel) rfl
theorem ll_RX10_262 : Cond.methodLink RX10 262 yX4_sampleAt ∈ gw := gin 1223 (by decide +kernel) rfl
theorem lm_X4_widest : lkM yX4_widest cX4_widest 6 (some .int) 1 := ⟨gin 1239 (by decide +kernel) rfl, gin 99 (by decide +kernel) rfl, by decide +kernel⟩
theorem lv_m_X4_widest : Cond.instanceMethod yX4_widest ∈ gw ∧ Cond.selects (yX4_widest).cls yX4_widest yX4_widest ∈ gw := ⟨gin 1237 (by decide +kernel) rfl, gin 1238 (by decide +kernel) rfl⟩
theorem ll_RX10_267 : Cond.methodLink RX10 267 yX4_widest ∈ gw := gin 1236 (by decide +kernel) rfl
theorem lm_X10_canTurn : lkM yX10_canTurn cX10_canTurn 2 (some .boolean) 2 := ⟨gin 1260 (by decide +kernel) rfl, gin 90 (by decide +kernel) rfl, by decide +kernel⟩
theorem ls_m_X10_canTurn : Cond.static yX10_canTurn ∈ gw := gin 1259 (by decide +kernel) rfl
theorem ll_RX10_279 : Cond.methodLink RX10 279 yX10_canTurn ∈ gw := gin 1258 (by decide +kernel) rfl
theorem lm_X10_turnable : lkM yX10_turnable cX10_turnable 2 (some .int) 1 := ⟨gin 1257 (by decide +kernel) rfl, gin 90 (by decide +kernel) rfl, by decide +kernel⟩
theorem lv_m_X10_turnable : Cond.instanceMethod yX10_turnable ∈ gw ∧ Cond.selects (yX10_turnable).cls yX10_turnable yX10_turnable ∈ gw := ⟨gin 1256 (by decide +kernel) rfl, gin 23 (by decide +kernel) rfl⟩
theorem ll_RX10_276 : Cond.methodLink RX10 276 yX10_turnable ∈ gw := gin 1254 (by decide +kernel) rfl
theorem lc_10 : ∃ T N, vwCl[10]? = some (RX10, T, N) := ⟨_, _, rfl⟩
theorem lm_X2_behind : lkM yX2_behind cX2_behind 5 (some .int) 4 := ⟨gin 1273 (by decide +kernel) rfl, gin 100 (by decide +kernel) rfl, by decide +kernel⟩
theorem lv_m_X2_behind : Cond.instanceMethod yX2_behind ∈ gw ∧ Cond.selects (yX2_behind).cls yX2_behind yX2_behind ∈ gw := ⟨gin 1271 (by decide +kernel) rfl, gin 1272 (by decide +kernel) rfl⟩
theorem ll_RX10_291 : Cond.methodLink RX10 291 yX2_behind ∈ gw := gin 1270 (by decide +kernel) rfl
theorem lm_X2_firstOf : lkM yX2_firstOf cX2_firstOf 6 (some .int) 3 := ⟨gin 1289 (by decide +kernel) rfl, gin 100 (by decide +kernel) rfl, by decide +kernel⟩
theorem lv_m_X2_firstOf : Cond.instanceMethod yX2_firstOf ∈ gw ∧ Cond.selects (yX2_firstOf).cls yX2_firstOf yX2_firstOf ∈ gw := ⟨gin 1287 (by decide +kernel) rfl, gin 1288 (by decide +kernel) rfl⟩
theorem ll_RX10_299 : Cond.methodLink RX10 299 yX2_firstOf ∈ gw := gin 1286 (by decide +kernel) rfl
theorem lm_X2_firstPlaying : lkM yX2_firstPlaying cX2_firstPlaying 4 (some .int) 2 := ⟨gin 1285 (by decide +kernel) rfl, gin 100 (by decide +kernel) rfl, by decide +kernel⟩
theorem lv_m_X2_firstPlaying : Cond.instanceMethod yX2_firstPlaying ∈ gw ∧ Cond.selects (yX2_firstPlaying).cls yX2_firstPlaying yX2_firstPlaying ∈ gw := ⟨gin 1283 (by decide +kernel) rfl, gin 1284 (by decide +kernel) rfl⟩
theorem ll_RX10_295 : Cond.methodLink RX10 295 yX2_firstPlaying ∈ gw := gin 1282 (by decide +kernel) rfl
theorem lf_RX10_315 : FL RX10 315 2 2 := ⟨_, _, _, rfl, rfl, by decide, gin 554 (by decide +kernel) rfl⟩
theorem lf_RX10_312 : FL RX10 312 2 1 := ⟨_, _, _, rfl, rfl, by decide, gin 552 (by decide +kernel) rfl⟩
theorem lm_X2_findTarget : lkM yX2_findTarget cX2_findTarget 5 none 3 := ⟨gin 1305 (by decide +kernel) rfl, gin 100 (by decide +kernel) rfl, by decide +kernel⟩
theorem lv_m_X2_findTarget : Cond.instanceMethod yX2_findTarget ∈ gw ∧ Cond.selects (yX2_findTarget).cls yX2_findTarget yX2_findTarget ∈ gw := ⟨gin 1303 (by decide +kernel) rfl, gin 1304 (by decide +kernel) rfl⟩
theorem ll_RX10_308 : Cond.methodLink RX10 308 yX2_findTarget ∈ gw := gin 1302 (by decide +kernel) rfl
theorem lm_X2_findGains : lkM yX2_findGains cX2_findGains 7 none 3 := ⟨gin 1320 (by decide +kernel) rfl, gin 100 (by decide +kernel) rfl, by decide +kernel⟩
theorem lv_m_X2_findGains : Cond.instanceMethod yX2_findGains ∈ gw ∧ Cond.selects (yX2_findGains).cls yX2_findGains yX2_findGains ∈ gw := ⟨gin 1318 (by decide +kernel) rfl, gin 1319 (by decide +kernel) rfl⟩
theorem ll_RX10_318 : Cond.methodLink RX10 318 yX2_findGains ∈ gw := gin 1317 (by decide +kernel) rfl
theorem lf_RX10_335 : FL RX10 335 2 4 := ⟨_, _, _, rfl, rfl, by decide, gin 558 (by decide +kernel) rfl⟩
theorem lf_RX10_332 : FL RX10 332 2 3 := ⟨_, _, _, rfl, rfl, by decide, gin 556 (by decide +kernel) rfl⟩
theorem lm_X2_findOthers : lkM yX2_findOthers cX2_findOthers 4 none 2 := ⟨gin 1345 (by decide +kernel) rfl, gin 100 (by decide +kernel) rfl, by decide +kernel⟩
theorem lv_m_X2_findOthers : Cond.instanceMethod yX2_findOthers ∈ gw ∧ Cond.selects (yX2_findOthers).cls yX2_findOthers yX2_findOthers ∈ gw := ⟨gin 1343 (by decide +kernel) rfl, gin 1344 (by decide +kernel) rfl⟩
theorem ll_RX10_328 : Cond.methodLink RX10 328 yX2_findOthers ∈ gw := gin 1342 (by decide +kernel) rfl
theorem ll_RX10_324 : Cond.methodLink RX10 324 yX2_agrees ∈ gw := gin 1333 (by decide +kernel) rfl
theorem lm_X2_findLook : lkM yX2_findLook cX2_findLook 2 none 0 := ⟨gin 1364 (by decide +kernel) rfl, gin 100 (by decide +kernel) rfl, by decide +kernel⟩
theorem lv_m_X2_findLook : Cond.instanceMethod yX2_findLook ∈ gw ∧ Cond.selects (yX2_findLook).cls yX2_findLook yX2_findLook ∈ gw := ⟨gin 1362 (by decide +kernel) rfl, gin 1363 (by decide +kernel) rfl⟩
theorem ll_RX10_338 : Cond.methodLink RX10 338 yX2_findLook ∈ gw := gin 1361 (by decide +kernel) rfl
theorem lm_X2_unharmed : lkM yX2_unharmed cX2_unharmed 8 (some .int) 4 := ⟨gin 1376 (by decide +kernel) rfl, gin 100 (by decide +kernel) rfl, by decide +kernel⟩
theorem lv_m_X2_unharmed : Cond.instanceMethod yX2_unharmed ∈ gw ∧ Cond.selects (yX2_unharmed).cls yX2_unharmed yX2_unharmed ∈ gw := ⟨gin 1374 (by decide +kernel) rfl, gin 1375 (by decide +kernel) rfl⟩
theorem ll_RX10_343 : Cond.methodLink RX10 343 yX2_unharmed ∈ gw := gin 1373 (by decide +kernel) rfl
theorem lm_X2_byChance : lkM yX2_byChance cX2_byChance 8 (some .int) 5 := ⟨gin 1395 (by decide +kernel) rfl, gin 100 (by decide +kernel) rfl, by decide +kernel⟩
theorem lv_m_X2_byChance : Cond.instanceMethod yX2_byChance ∈ gw ∧ Cond.selects (yX2_byChance).cls yX2_byChance yX2_byChance ∈ gw := ⟨gin 1393 (by decide +kernel) rfl, gin 1394 (by decide +kernel) rfl⟩
theorem ll_RX10_348 : Cond.methodLink RX10 348 yX2_byChance ∈ gw := gin 1392 (by decide +kernel) rfl
def f_X10_line (t : Nat) (x1_ : Int32) (M : Mem) : Option ((Int32 ⊕ Nat) × Mem) :=
  jn0 (fun _ => some (.inr 1, M)) (fun J15 => if x1_ < 0 then (J15 ()) else (if x1_ ≤ (M.1 (t + 1) 1) then (bd (f_X6_read (t + 1) x1_ M) (fun u1 M2 => if u1 = 0 then (gdp (M2.2.2 0 = t + 3 ∨ M2.2.2 0 = t + 11) (bd (f_X6_exchange (t + 1) (M2.2.2 0) M2) (fun u4 M5 => nm (wd M5 0 u4) (fun M6 => gdp (M6.2.2 0 = t + 3 ∨ M6.2.2 0 = t + 11) (bd (f_X8_begin (t + 19) (M6.2.2 0) M6) (fun _ M9 => nm (wi M9 t 4 (0 : Int32)) (fun M10 => some (.inl (0 : Int32), M10)))))))) else (bd (f_X8_refuse (t + 19) (0 : Int32) M2) (fun _ M12 => some (.inl u1, M12))))) else (J15 ())))
set_option maxRecDepth 20000 in
theorem c_X10_line {G : Ctx} (hfl : (gl G).stackTraces = false) (hW : WFG G) {t : Nat} {x1_ : Int32} {M M' : Mem} {r : Int32 ⊕ Nat} (h0 : hs G t (0, 10)) (hf : f_X10_line t x1_ M = some (r, M')) : CtX G yX10_line cX10_line 3 (some .int) 97 5312 [.ref t, .int x1_] M r M' := by
  refine ct_x hfl hW (by decide +kernel) (Nat.le_of_ble_eq_true rfl) (by decide) (fun w h hr ht => ?_)
  have h : Rb G cX10_line RX10 3 97 5312 w := h
  refine (?_ : E (fun q => q = (r, M')) (f_X10_line t x1_ M) (w M 0 [(0, .ref t), (1, .int x1_)] [])) _ hf rfl
  unfold f_X10_line
  refine E.m (h.iload_n 1 dX10_line_0 rfl) ?_
  refine E.join0 (fun _ => w M 15 [(0, .ref t), (1, .int x1_)] []) (fun _ => ?_) (fun J15 hJ15 => ?_)
  · exact E.some (ret_t ht th_52_56 (is := 54) 0 rfl ⟨dX10_line_15, dX10_line_18, Or.inl ⟨dX10_line_19, dX10_line_21, dX10_line_24⟩⟩)
  refine E.br (fun k1 k2 => h.if_lt (tgt := 15) dX10_line_1 (by decide) k1 k2) ?_ ?_
  · exact hJ15 ()
  · refine E.m (h.iload_n 1 dX10_line_4 rfl) ?_
    refine E.m (h.aload_n 0 dX10_line_5 rfl) ?_
    refine E.m (h.get h0 lf_RX10_10 dX10_line_6 fv_10_0) ?_
    refine E.m (h.get (hW.clo 34 h0 rfl) lf_RX10_44 dX10_line_9 fv_6_1) ?_
    refine E.br (fun k1 k2 => h.icmp_le (tgt := 25) dX10_line_12 (by decide) k1 k2) ?_ ?_
    · refine E.m (h.aload_n 0 dX10_line_25 rfl) ?_
      refine E.m (h.get h0 lf_RX10_10 dX10_line_26 fv_10_0) ?_
      refine E.m (h.iload_n 1 dX10_line_29 rfl) ?_
      refine E.bnd (fun u1 M2 => w M2 33 [(0, .ref t), (1, .int x1_)] [.int u1]) (fun u1 M2 hf k => h.callV (As := [.int x1_]) (rest := []) (c_X6_read hW (hW.clo 34 h0 rfl) hf) lm_X6_read lv_m_X6_read ll_RX10_59 (hW.clo 34 h0 rfl) lc_6 rfl rfl (Nat.le_of_ble_eq_true rfl) (by decide) dX10_line_30 rfl k) (fun u1 M2 => ?_)
      refine E.m (h.istore_n dX10_line_33 (by decide) rfl) ?_
      refine E.m (h.iload_n 0 dX10_line_34 rfl) ?_
      refine E.br (fun k1 k2 => h.if_eq (tgt := 48) dX10_line_35 (by decide) k1 k2) ?_ ?_
      · refine E.m (h.aload_n 1 dX10_line_48 rfl) ?_
        refine E.m (h.aload_n 1 dX10_line_49 rfl) ?_
        refine E.m (h.get h0 lf_RX10_10 dX10_line_50 fv_10_0) ?_
        refine E.m (h.aload_n 1 dX10_line_53 rfl) ?_
        refine E.gd (fun _ k => h.get h0 lf_RX10_19 dX10_line_54 fv_10_1 k) (fun hd3 => ?_)
        refine E.bnd (fun u4 M5 => w M5 60 [(2, .int u1), (0, .ref t), (1, .int x1_)] [.ref u4, .ref t]) (fun u4 M5 hf k => h.callV (As := [.ref (M2.2.2 0)]) (rest := [.ref t]) (c_X6_exchange hW (hW.clo 34 h0 rfl) (hs2 hd3 (hW.clo 38 h0 rfl) (hW.clo 39 h0 rfl)) hf) lm_X6_exchange lv_m_X6_exchange ll_RX10_66 (hW.clo 34 h0 rfl) lc_6 rfl rfl (Nat.le_of_ble_eq_true rfl) (by decide) dX10_line_57 rfl k) (fun u4 M5 => ?_)
        refine E.m (h.putd h0 (by decide) lp_RX10_19 rfl (by decide) (by decide) dX10_line_60) ?_
        refine E.nmM (fun M6 => ?_)
        refine E.m (h.aload_n 1 dX10_line_63 rfl) ?_
        refine E.m (h.get h0 lf_RX10_26 dX10_line_64 fv_10_2) ?_
        refine E.m (h.aload_n 1 dX10_line_67 rfl) ?_
        refine E.gd (fun _ k => h.get h0 lf_RX10_19 dX10_line_68 fv_10_1 k) (fun hd7 => ?_)
        refine E.bnd (fun _ M9 => w M9 74 [(2, .int u1), (0, .ref t), (1, .int x1_)] []) (fun _ M9 hf k => h.callV (As := [.ref (M6.2.2 0)]) (rest := []) (c_X8_begin hW (hW.clo 35 h0 rfl) (hs2 hd7 (hW.clo 38 h0 rfl) (hW.clo 39 h0 rfl)) hf) lm_X8_begin lv_m_X8_begin ll_RX10_40 (hW.clo 35 h0 rfl) lc_8 rfl rfl (Nat.le_of_ble_eq_true rfl) (by decide) dX10_line_71 rfl k) (fun _ M9 => ?_)
        refine E.m (h.aload_n 1 dX10_line_74 rfl) ?_
        refine E.m (h.iconst (v := (0 : Int32)) dX10_line_75 (by decide)) ?_
        refine E.m (h.putz h0 lp_RX10_70 rfl dX10_line_76 (by decide)) ?_
        refine E.nmM (fun M10 => ?_)
        refine E.m (h.iconst (v := (0 : Int32)) dX10_line_79 (by decide)) ?_
        exact E.some (ret_x hr rfl dX10_line_80)
      · refine E.m (h.aload_n 1 dX10_line_38 rfl) ?_
        refine E.m (h.get h0 lf_RX10_26 dX10_line_39 fv_10_2) ?_
        refine E.m (h.iconst (v := (0 : Int32)) dX10_line_42 (by decide)) ?_
        refine E.bnd (fun _ M12 => w M12 46 [(2, .int u1), (0, .ref t), (1, .int x1_)] []) (fun _ M12 hf k => h.callV (As := [.int (0 : Int32)]) (rest := []) (c_X8_refuse hW (hW.clo 35 h0 rfl) hf) lm_X8_refuse lv_m_X8_refuse ll_RX10_63 (hW.clo 35 h0 rfl) lc_8 rfl rfl (Nat.le_of_ble_eq_true rfl) (by decide) dX10_line_43 rfl k) (fun _ M12 => ?_)
        refine E.m (h.iload_n 0 dX10_line_46 rfl) ?_
        exact E.some (ret_x hr rfl dX10_line_47)
    · exact hJ15 ()
def f_X10_count (t : Nat) (x1_ : Int32) (M : Mem) : Option ((Int32 ⊕ Nat) × Mem) :=
  if x1_.toInt < 0 ∨ 22 < x1_.toInt then (some (.inr 0, M)) else if x1_ = (0 : Int32) then (some (.inl (M.1 (t + 19 + 1) 0), M)) else if x1_ = (1 : Int32) then (some (.inl (M.1 (t + 19 + 1 + 1) 2), M)) else if x1_ = (2 : Int32) then (some (.inl (M.1 (t + 19 + 1 + 1) 3), M)) else if x1_ = (3 : Int32) then (some (.inl (M.1 (t + 19 + 1 + 1) 4), M)) else if x1_ = (4 : Int32) then (some (.inl (M.1 (t + 19 + 1 + 1) 8), M)) else if x1_ = (5 : Int32) then (some (.inl (M.1 (t + 19 + 1 + 5 + 1) 1), M)) else if x1_ = (6 : Int32) then (some (.inl (M.1 (t + 19 + 1 + 5 + 1) 2), M)) else if x1_ = (7 : Int32) then (some (.inl (M.1 (t + 19 + 1 + 5 + 4) 0), M)) else if x1_ = (8 : Int32) then (some (.inl (M.1 (t + 19 + 1 + 5 + 4) 1), M)) else if x1_ = (9 : Int32) then (gdp (M.2.2 0 = t + 3 ∨ M.2.2 0 = t + 11) (bd (f_X5_level (t + 19 + 1 + 5) (M.1 (M.2.2 0) 0) M) (fun u2 M3 => some (.inl u2, M3)))) else if x1_ = (10 : Int32) then (some (.inl (M.1 (t + 19 + 1 + 5) 0), M)) else if x1_ = (11 : Int32) then (some (.inl (M.1 (t + 19 + 1 + 5) 7), M)) else if x1_ = (12 : Int32) then (some (.inl (M.1 (t + 19 + 1 + 5) 6), M)) else if x1_ = (13 : Int32) then (gdp (M.2.2 0 = t + 3 ∨ M.2.2 0 = t + 11) (bd (f_X5_regained (t + 19 + 1 + 5) (M.1 (M.2.2 0) 0) M) (fun u5 M6 => some (.inl u5, M6)))) else if x1_ = (14 : Int32) then (some (.inl (M.1 (t + 19 + 1 + 5) 9), M)) else if x1_ = (15 : Int32) then (some (.inl (M.1 (t + 19 + 1 + 5 + 4) 2), M)) else if x1_ = (16 : Int32) then (bd (f_X4_samplesKept (t + 19 + 1 + 5 + 4) M) (fun u7 M8 => some (.inl u7, M8))) else if x1_ = (17 : Int32) then (some (.inl (M.1 (t + 19) 2), M)) else if x1_ = (18 : Int32) then (some (.inl (M.1 (t + 19) 5), M)) else if x1_ = (19 : Int32) then (some (.inl (M.1 (t + 1) 1), M)) else if x1_ = (20 : Int32) then (bd (f_X10_at (t + 19 + 29) 3 (0 : Int32) M) (fun u9 M10 => some (.inl u9, M10))) else if x1_ = (21 : Int32) then (bd (f_X10_at (t + 19 + 29) 3 (1 : Int32) M) (fun u11 M12 => some (.inl u11, M12))) else if x1_ = (22 : Int32) then (bd (f_X10_at (t + 19 + 29) 3 (2 : Int32) M) (fun u13 M14 => some (.inl u13, M14))) else none
set_option maxRecDepth 20000 in
theorem c_X10_count {G : Ctx} (hfl : (gl G).stackTraces = false) (hW : WFG G) {t : Nat} {x1_ : Int32} {M M' : Mem} {r : Int32 ⊕ Nat} (h0 : hs G t (0, 10)) (hf : f_X10_count t x1_ M = some (r, M')) : CtX G yX10_count cX10_count 3 (some .int) 10 200 [.ref t, .int x1_] M r M' := by
  refine ct_x hfl hW (by decide +kernel) (Nat.le_of_ble_eq_true rfl) (by decide) (fun w h hr ht => ?_)
  have h : Rb G cX10_count RX10 3 10 200 w := h
  refine (?_ : E (fun q => q = (r, M')) (f_X10_count t x1_ M) (w M 0 [(0, .ref t), (1, .int x1_)] [])) _ hf rfl
  unfold f_X10_count
  refine E.m (h.aload_n 0 dX10_count_0 rfl) ?_
  refine E.m (h.get h0 lf_RX10_26 dX10_count_1 fv_10_2) ?_
  refine E.m (h.get (hW.clo 35 h0 rfl) lf_RX10_77 dX10_count_4 fv_8_0) ?_
  refine E.m (h.astore_n dX10_count_7 (by decide) rfl) ?_
  refine E.m (h.iload_n 2 dX10_count_8 rfl) ?_
  refine E.sw (fun hc k => h.tabOut (tgt := 341) dX10_count_9 hc (by decide) k) ?_ (fun hn => ?_)
  · exact E.some (ret_t ht th_176_180 (is := 178) 17 rfl ⟨dX10_count_341, dX10_count_344, Or.inl ⟨dX10_count_345, dX10_count_347, dX10_count_350⟩⟩)
  refine E.sw (fun hc k => h.tabIn (tgt := 116) dX10_count_9 (by rw [hc]; decide) (by rw [hc]; decide) (by rw [hc]; rfl) (by decide) k) ?_ (fun _ => ?_)
  · refine E.m (h.aload_n 0 dX10_count_116 rfl) ?_
    refine E.m (h.get (hW.clo 25 (hW.clo 35 h0 rfl) rfl) lf_RX10_81 dX10_count_117 fv_9_0) ?_
    exact E.some (ret_x hr rfl dX10_count_120)
  refine E.sw (fun hc k => h.tabIn (tgt := 121) dX10_count_9 (by rw [hc]; decide) (by rw [hc]; decide) (by rw [hc]; rfl) (by decide) k) ?_ (fun _ => ?_)
  · refine E.m (h.aload_n 0 dX10_count_121 rfl) ?_
    refine E.m (h.get (hW.clo 25 (hW.clo 35 h0 rfl) rfl) lf_RX10_86 dX10_count_122 fv_9_1) ?_
    refine E.m (h.get (hW.clo 32 (hW.clo 25 (hW.clo 35 h0 rfl) rfl) rfl) lf_RX10_90 dX10_count_125 fv_1_2) ?_
    exact E.some (ret_x hr rfl dX10_count_128)
  refine E.sw (fun hc k => h.tabIn (tgt := 129) dX10_count_9 (by rw [hc]; decide) (by rw [hc]; decide) (by rw [hc]; rfl) (by decide) k) ?_ (fun _ => ?_)
  · refine E.m (h.aload_n 0 dX10_count_129 rfl) ?_
    refine E.m (h.get (hW.clo 25 (hW.clo 35 h0 rfl) rfl) lf_RX10_86 dX10_count_130 fv_9_1) ?_
    refine E.m (h.get (hW.clo 32 (hW.clo 25 (hW.clo 35 h0 rfl) rfl) rfl) lf_RX10_95 dX10_count_133 fv_1_3) ?_
    exact E.some (ret_x hr rfl dX10_count_136)
  refine E.sw (fun hc k => h.tabIn (tgt := 137) dX10_count_9 (by rw [hc]; decide) (by rw [hc]; decide) (by rw [hc]; rfl) (by decide) k) ?_ (fun _ => ?_)
  · refine E.m (h.aload_n 0 dX10_count_137 rfl) ?_
    refine E.m (h.get (hW.clo 25 (hW.clo 35 h0 rfl) rfl) lf_RX10_86 dX10_count_138 fv_9_1) ?_
    refine E.m (h.get (hW.clo 32 (hW.clo 25 (hW.clo 35 h0 rfl) rfl) rfl) lf_RX10_98 dX10_count_141 fv_1_4) ?_
    exact E.some (ret_x hr rfl dX10_count_144)
  refine E.sw (fun hc k => h.tabIn (tgt := 145) dX10_count_9 (by rw [hc]; decide) (by rw [hc]; decide) (by rw [hc]; rfl) (by decide) k) ?_ (fun _ => ?_)
  · refine E.m (h.aload_n 0 dX10_count_145 rfl) ?_
    refine E.m (h.get (hW.clo 25 (hW.clo 35 h0 rfl) rfl) lf_RX10_86 dX10_count_146 fv_9_1) ?_
    refine E.m (h.get (hW.clo 32 (hW.clo 25 (hW.clo 35 h0 rfl) rfl) rfl) lf_RX10_101 dX10_count_149 fv_1_8) ?_
    exact E.some (ret_x hr rfl dX10_count_152)
  refine E.sw (fun hc k => h.tabIn (tgt := 153) dX10_count_9 (by rw [hc]; decide) (by rw [hc]; decide) (by rw [hc]; rfl) (by decide) k) ?_ (fun _ => ?_)
  · refine E.m (h.aload_n 0 dX10_count_153 rfl) ?_
    refine E.m (h.get (hW.clo 25 (hW.clo 35 h0 rfl) rfl) lf_RX10_104 dX10_count_154 fv_9_2) ?_
    refine E.m (h.get (hW.clo 33 (hW.clo 25 (hW.clo 35 h0 rfl) rfl) rfl) lf_RX10_108 dX10_count_157 fv_5_10) ?_
    refine E.m (h.get (hW.clo 14 (hW.clo 33 (hW.clo 25 (hW.clo 35 h0 rfl) rfl) rfl) rfl) lf_RX10_114 dX10_count_160 fv_0_1) ?_
    exact E.some (ret_x hr rfl dX10_count_163)
  refine E.sw (fun hc k => h.tabIn (tgt := 164) dX10_count_9 (by rw [hc]; decide) (by rw [hc]; decide) (by rw [hc]; rfl) (by decide) k) ?_ (fun _ => ?_)
  · refine E.m (h.aload_n 0 dX10_count_164 rfl) ?_
    refine E.m (h.get (hW.clo 25 (hW.clo 35 h0 rfl) rfl) lf_RX10_104 dX10_count_165 fv_9_2) ?_
    refine E.m (h.get (hW.clo 33 (hW.clo 25 (hW.clo 35 h0 rfl) rfl) rfl) lf_RX10_108 dX10_count_168 fv_5_10) ?_
    refine E.m (h.get (hW.clo 14 (hW.clo 33 (hW.clo 25 (hW.clo 35 h0 rfl) rfl) rfl) rfl) lf_RX10_119 dX10_count_171 fv_0_2) ?_
    exact E.some (ret_x hr rfl dX10_count_174)
  refine E.sw (fun hc k => h.tabIn (tgt := 175) dX10_count_9 (by rw [hc]; decide) (by rw [hc]; decide) (by rw [hc]; rfl) (by decide) k) ?_ (fun _ => ?_)
  · refine E.m (h.aload_n 0 dX10_count_175 rfl) ?_
    refine E.m (h.get (hW.clo 25 (hW.clo 35 h0 rfl) rfl) lf_RX10_104 dX10_count_176 fv_9_2) ?_
    refine E.m (h.get (hW.clo 33 (hW.clo 25 (hW.clo 35 h0 rfl) rfl) rfl) lf_RX10_122 dX10_count_179 fv_5_11) ?_
    refine E.m (h.get (hW.clo 15 (hW.clo 33 (hW.clo 25 (hW.clo 35 h0 rfl) rfl) rfl) rfl) lf_RX10_126 dX10_count_182 fv_4_0) ?_
    exact E.some (ret_x hr rfl dX10_count_185)
  refine E.sw (fun hc k => h.tabIn (tgt := 186) dX10_count_9 (by rw [hc]; decide) (by rw [hc]; decide) (by rw [hc]; rfl) (by decide) k) ?_ (fun _ => ?_)
  · refine E.m (h.aload_n 0 dX10_count_186 rfl) ?_
    refine E.m (h.get (hW.clo 25 (hW.clo 35 h0 rfl) rfl) lf_RX10_104 dX10_count_187 fv_9_2) ?_
    refine E.m (h.get (hW.clo 33 (hW.clo 25 (hW.clo 35 h0 rfl) rfl) rfl) lf_RX10_122 dX10_count_190 fv_5_11) ?_
    refine E.m (h.get (hW.clo 15 (hW.clo 33 (hW.clo 25 (hW.clo 35 h0 rfl) rfl) rfl) rfl) lf_RX10_131 dX10_count_193 fv_4_1) ?_
    exact E.some (ret_x hr rfl dX10_count_196)
  refine E.sw (fun hc k => h.tabIn (tgt := 197) dX10_count_9 (by rw [hc]; decide) (by rw [hc]; decide) (by rw [hc]; rfl) (by decide) k) ?_ (fun _ => ?_)
  · refine E.m (h.aload_n 0 dX10_count_197 rfl) ?_
    refine E.m (h.get (hW.clo 25 (hW.clo 35 h0 rfl) rfl) lf_RX10_104 dX10_count_198 fv_9_2) ?_
    refine E.m (h.aload_n 1 dX10_count_201 rfl) ?_
    refine E.gd (fun _ k => h.get h0 lf_RX10_19 dX10_count_202 fv_10_1 k) (fun hd1 => ?_)
    refine E.m (h.get (hs2 hd1 (hW.clo 38 h0 rfl) (hW.clo 39 h0 rfl)) lf_RX10_134 dX10_count_205 fv_3_0) ?_
    refine E.bnd (fun u2 M3 => w M3 211 [(2, .ref (t + 19 + 1)), (0, .ref t), (1, .int x1_)] [.int u2]) (fun u2 M3 hf k => h.callV (As := [.int (M.1 (M.2.2 0) 0)]) (rest := []) (c_X5_level hW (hW.clo 33 (hW.clo 25 (hW.clo 35 h0 rfl) rfl) rfl) hf) lm_X5_level lv_m_X5_level ll_RX10_137 (hW.clo 33 (hW.clo 25 (hW.clo 35 h0 rfl) rfl) rfl) lc_5 rfl rfl (Nat.le_of_ble_eq_true rfl) (by decide) dX10_count_208 rfl k) (fun u2 M3 => ?_)
    exact E.some (ret_x hr rfl dX10_count_211)
  refine E.sw (fun hc k => h.tabIn (tgt := 212) dX10_count_9 (by rw [hc]; decide) (by rw [hc]; decide) (by rw [hc]; rfl) (by decide) k) ?_ (fun _ => ?_)
  · refine E.m (h.aload_n 0 dX10_count_212 rfl) ?_
    refine E.m (h.get (hW.clo 25 (hW.clo 35 h0 rfl) rfl) lf_RX10_104 dX10_count_213 fv_9_2) ?_
    refine E.m (h.get (hW.clo 33 (hW.clo 25 (hW.clo 35 h0 rfl) rfl) rfl) lf_RX10_140 dX10_count_216 fv_5_0) ?_
    exact E.some (ret_x hr rfl dX10_count_219)
  refine E.sw (fun hc k => h.tabIn (tgt := 220) dX10_count_9 (by rw [hc]; decide) (by rw [hc]; decide) (by rw [hc]; rfl) (by decide) k) ?_ (fun _ => ?_)
  · refine E.m (h.aload_n 0 dX10_count_220 rfl) ?_
    refine E.m (h.get (hW.clo 25 (hW.clo 35 h0 rfl) rfl) lf_RX10_104 dX10_count_221 fv_9_2) ?_
    refine E.m (h.get (hW.clo 33 (hW.clo 25 (hW.clo 35 h0 rfl) rfl) rfl) lf_RX10_143 dX10_count_224 fv_5_7) ?_
    exact E.some (ret_x hr rfl dX10_count_227)
  refine E.sw (fun hc k => h.tabIn (tgt := 228) dX10_count_9 (by rw [hc]; decide) (by rw [hc]; decide) (by rw [hc]; rfl) (by decide) k) ?_ (fun _ => ?_)
  · refine E.m (h.aload_n 0 dX10_count_228 rfl) ?_
    refine E.m (h.get (hW.clo 25 (hW.clo 35 h0 rfl) rfl) lf_RX10_104 dX10_count_229 fv_9_2) ?_
    refine E.m (h.get (hW.clo 33 (hW.clo 25 (hW.clo 35 h0 rfl) rfl) rfl) lf_RX10_146 dX10_count_232 fv_5_6) ?_
    exact E.some (ret_x hr rfl dX10_count_235)
  refine E.sw (fun hc k => h.tabIn (tgt := 236) dX10_count_9 (by rw [hc]; decide) (by rw [hc]; decide) (by rw [hc]; rfl) (by decide) k) ?_ (fun _ => ?_)
  · refine E.m (h.aload_n 0 dX10_count_236 rfl) ?_
    refine E.m (h.get (hW.clo 25 (hW.clo 35 h0 rfl) rfl) lf_RX10_104 dX10_count_237 fv_9_2) ?_
    refine E.m (h.aload_n 1 dX10_count_240 rfl) ?_
    refine E.gd (fun _ k => h.get h0 lf_RX10_19 dX10_count_241 fv_10_1 k) (fun hd4 => ?_)
    refine E.m (h.get (hs2 hd4 (hW.clo 38 h0 rfl) (hW.clo 39 h0 rfl)) lf_RX10_134 dX10_count_244 fv_3_0) ?_
    refine E.bnd (fun u5 M6 => w M6 250 [(2, .ref (t + 19 + 1)), (0, .ref t), (1, .int x1_)] [.int u5]) (fun u5 M6 hf k => h.callV (As := [.int (M.1 (M.2.2 0) 0)]) (rest := []) (c_X5_regained hW (hW.clo 33 (hW.clo 25 (hW.clo 35 h0 rfl) rfl) rfl) hf) lm_X5_regained lv_m_X5_regained ll_RX10_149 (hW.clo 33 (hW.clo 25 (hW.clo 35 h0 rfl) rfl) rfl) lc_5 rfl rfl (Nat.le_of_ble_eq_true rfl) (by decide) dX10_count_247 rfl k) (fun u5 M6 => ?_)
    exact E.some (ret_x hr rfl dX10_count_250)
  refine E.sw (fun hc k => h.tabIn (tgt := 251) dX10_count_9 (by rw [hc]; decide) (by rw [hc]; decide) (by rw [hc]; rfl) (by decide) k) ?_ (fun _ => ?_)
  · refine E.m (h.aload_n 0 dX10_count_251 rfl) ?_
    refine E.m (h.get (hW.clo 25 (hW.clo 35 h0 rfl) rfl) lf_RX10_104 dX10_count_252 fv_9_2) ?_
    refine E.m (h.get (hW.clo 33 (hW.clo 25 (hW.clo 35 h0 rfl) rfl) rfl) lf_RX10_152 dX10_count_255 fv_5_9) ?_
    exact E.some (ret_x hr rfl dX10_count_258)
  refine E.sw (fun hc k => h.tabIn (tgt := 259) dX10_count_9 (by rw [hc]; decide) (by rw [hc]; decide) (by rw [hc]; rfl) (by decide) k) ?_ (fun _ => ?_)
  · refine E.m (h.aload_n 0 dX10_count_259 rfl) ?_
    refine E.m (h.get (hW.clo 25 (hW.clo 35 h0 rfl) rfl) lf_RX10_104 dX10_count_260 fv_9_2) ?_
    refine E.m (h.get (hW.clo 33 (hW.clo 25 (hW.clo 35 h0 rfl) rfl) rfl) lf_RX10_122 dX10_count_263 fv_5_11) ?_
    refine E.m (h.get (hW.clo 15 (hW.clo 33 (hW.clo 25 (hW.clo 35 h0 rfl) rfl) rfl) rfl) lf_RX10_155 dX10_count_266 fv_4_2) ?_
    exact E.some (ret_x hr rfl dX10_count_269)
  refine E.sw (fun hc k => h.tabIn (tgt := 270) dX10_count_9 (by rw [hc]; decide) (by rw [hc]; decide) (by rw [hc]; rfl) (by decide) k) ?_ (fun _ => ?_)
  · refine E.m (h.aload_n 0 dX10_count_270 rfl) ?_
    refine E.m (h.get (hW.clo 25 (hW.clo 35 h0 rfl) rfl) lf_RX10_104 dX10_count_271 fv_9_2) ?_
    refine E.m (h.get (hW.clo 33 (hW.clo 25 (hW.clo 35 h0 rfl) rfl) rfl) lf_RX10_122 dX10_count_274 fv_5_11) ?_
    refine E.bnd (fun u7 M8 => w M8 280 [(2, .ref (t + 19 + 1)), (0, .ref t), (1, .int x1_)] [.int u7]) (fun u7 M8 hf k => h.callV (As := []) (rest := []) (c_X4_samplesKept hW (hW.clo 15 (hW.clo 33 (hW.clo 25 (hW.clo 35 h0 rfl) rfl) rfl) rfl) hf) lm_X4_samplesKept lv_m_X4_samplesKept ll_RX10_158 (hW.clo 15 (hW.clo 33 (hW.clo 25 (hW.clo 35 h0 rfl) rfl) rfl) rfl) lc_4 rfl rfl (Nat.le_of_ble_eq_true rfl) (by decide) dX10_count_277 rfl k) (fun u7 M8 => ?_)
    exact E.some (ret_x hr rfl dX10_count_280)
  refine E.sw (fun hc k => h.tabIn (tgt := 281) dX10_count_9 (by rw [hc]; decide) (by rw [hc]; decide) (by rw [hc]; rfl) (by decide) k) ?_ (fun _ => ?_)
  · refine E.m (h.aload_n 1 dX10_count_281 rfl) ?_
    refine E.m (h.get h0 lf_RX10_26 dX10_count_282 fv_10_2) ?_
    refine E.m (h.get (hW.clo 35 h0 rfl) lf_RX10_162 dX10_count_285 fv_8_2) ?_
    exact E.some (ret_x hr rfl dX10_count_288)
  refine E.sw (fun hc k => h.tabIn (tgt := 289) dX10_count_9 (by rw [hc]; decide) (by rw [hc]; decide) (by rw [hc]; rfl) (by decide) k) ?_ (fun _ => ?_)
  · refine E.m (h.aload_n 1 dX10_count_289 rfl) ?_
    refine E.m (h.get h0 lf_RX10_26 dX10_count_290 fv_10_2) ?_
    refine E.m (h.get (hW.clo 35 h0 rfl) lf_RX10_165 dX10_count_293 fv_8_5) ?_
    exact E.some (ret_x hr rfl dX10_count_296)
  refine E.sw (fun hc k => h.tabIn (tgt := 297) dX10_count_9 (by rw [hc]; decide) (by rw [hc]; decide) (by rw [hc]; rfl) (by decide) k) ?_ (fun _ => ?_)
  · refine E.m (h.aload_n 1 dX10_count_297 rfl) ?_
    refine E.m (h.get h0 lf_RX10_10 dX10_count_298 fv_10_0) ?_
    refine E.m (h.get (hW.clo 34 h0 rfl) lf_RX10_44 dX10_count_301 fv_6_1) ?_
    exact E.some (ret_x hr rfl dX10_count_304)
  refine E.sw (fun hc k => h.tabIn (tgt := 305) dX10_count_9 (by rw [hc]; decide) (by rw [hc]; decide) (by rw [hc]; rfl) (by decide) k) ?_ (fun _ => ?_)
  · refine E.m (h.aload_n 1 dX10_count_305 rfl) ?_
    refine E.m (h.get h0 lf_RX10_26 dX10_count_306 fv_10_2) ?_
    refine E.m (h.get (hW.clo 35 h0 rfl) lf_RX10_168 dX10_count_309 fv_8_8) ?_
    refine E.m (h.iconst (v := (0 : Int32)) dX10_count_312 (by decide)) ?_
    refine E.bnd (fun u9 M10 => w M10 316 [(2, .ref (t + 19 + 1)), (0, .ref t), (1, .int x1_)] [.int u9]) (fun u9 M10 hf k => h.callS (As := [.ref (t + 19 + 29), .int (0 : Int32)]) (rest := []) (c_X10_at hW (hW.clo 31 (hW.clo 35 h0 rfl) rfl) hf) lm_X10_at ls_m_X10_at ll_RX10_172 rfl rfl (Nat.le_of_ble_eq_true rfl) (by decide) dX10_count_313 rfl k) (fun u9 M10 => ?_)
    exact E.some (ret_x hr rfl dX10_count_316)
  refine E.sw (fun hc k => h.tabIn (tgt := 317) dX10_count_9 (by rw [hc]; decide) (by rw [hc]; decide) (by rw [hc]; rfl) (by decide) k) ?_ (fun _ => ?_)
  · refine E.m (h.aload_n 1 dX10_count_317 rfl) ?_
    refine E.m (h.get h0 lf_RX10_26 dX10_count_318 fv_10_2) ?_
    refine E.m (h.get (hW.clo 35 h0 rfl) lf_RX10_168 dX10_count_321 fv_8_8) ?_
    refine E.m (h.iconst (v := (1 : Int32)) dX10_count_324 (by decide)) ?_
    refine E.bnd (fun u11 M12 => w M12 328 [(2, .ref (t + 19 + 1)), (0, .ref t), (1, .int x1_)] [.int u11]) (fun u11 M12 hf k => h.callS (As := [.ref (t + 19 + 29), .int (1 : Int32)]) (rest := []) (c_X10_at hW (hW.clo 31 (hW.clo 35 h0 rfl) rfl) hf) lm_X10_at ls_m_X10_at ll_RX10_172 rfl rfl (Nat.le_of_ble_eq_true rfl) (by decide) dX10_count_325 rfl k) (fun u11 M12 => ?_)
    exact E.some (ret_x hr rfl dX10_count_328)
  refine E.sw (fun hc k => h.tabIn (tgt := 329) dX10_count_9 (by rw [hc]; decide) (by rw [hc]; decide) (by rw [hc]; rfl) (by decide) k) ?_ (fun _ => ?_)
  · refine E.m (h.aload_n 1 dX10_count_329 rfl) ?_
    refine E.m (h.get h0 lf_RX10_26 dX10_count_330 fv_10_2) ?_
    refine E.m (h.get (hW.clo 35 h0 rfl) lf_RX10_168 dX10_count_333 fv_8_8) ?_
    refine E.m (h.iconst (v := (2 : Int32)) dX10_count_336 (by decide)) ?_
    refine E.bnd (fun u13 M14 => w M14 340 [(2, .ref (t + 19 + 1)), (0, .ref t), (1, .int x1_)] [.int u13]) (fun u13 M14 hf k => h.callS (As := [.ref (t + 19 + 29), .int (2 : Int32)]) (rest := []) (c_X10_at hW (hW.clo 31 (hW.clo 35 h0 rfl) rfl) hf) lm_X10_at ls_m_X10_at ll_RX10_172 rfl rfl (Nat.le_of_ble_eq_true rfl) (by decide) dX10_count_337 rfl k) (fun u13 M14 => ?_)
    exact E.some (ret_x hr rfl dX10_count_340)
  exact E.none
def f_X10_set (t : Nat) (x1_ : Int32) (M : Mem) : Option ((Int32 ⊕ Nat) × Mem) :=
  if x1_.toInt < 0 ∨ 14 < x1_.toInt then (some (.inr 0, M)) else if x1_ = (0 : Int32) then (gdp (M.2.2 0 = t + 3 ∨ M.2.2 0 = t + 11) (some (.inl (M.1 (M.2.2 0) 0), M))) else if x1_ = (1 : Int32) then (some (.inl (M.1 (t + 19 + 1 + 5) 1), M)) else if x1_ = (2 : Int32) then (gdp (M.2.2 0 = t + 3 ∨ M.2.2 0 = t + 11) (some (.inl (M.1 (M.2.2 0) 2), M))) else if x1_ = (3 : Int32) then (gdp (M.2.2 0 = t + 3 ∨ M.2.2 0 = t + 11) (some (.inl (M.1 (M.2.2 0) 3), M))) else if x1_ = (4 : Int32) then (gdp (M.2.2 0 = t + 3 ∨ M.2.2 0 = t + 11) (some (.inl (M.1 (M.2.2 0) 4), M))) else if x1_ = (5 : Int32) then (some (.inl (M.1 (t + 19 + 1 + 1) 0), M)) else if x1_ = (6 : Int32) then (gdp (M.2.2 0 = t + 3 ∨ M.2.2 0 = t + 11) (some (.inl (M.1 (M.2.2 0) 6), M))) else if x1_ = (7 : Int32) then (gdp (M.2.2 0 = t + 3 ∨ M.2.2 0 = t + 11) (some (.inl (M.1 (M.2.2 0) 7), M))) else if x1_ = (8 : Int32) then (some (.inl (M.1 (t + 19 + 1 + 5) 2), M)) else if x1_ = (9 : Int32) then (some (.inl (M.1 (t + 19 + 1 + 1) 6), M)) else if x1_ = (10 : Int32) then (some (.inl (M.1 (t + 19 + 1 + 1) 7), M)) else if x1_ = (11 : Int32) then (some (.inl (M.1 (t + 19 + 1 + 1) 1), M)) else if x1_ = (12 : Int32) then (some (.inl (M.1 (t + 19 + 1 + 5) 5), M)) else if x1_ = (13 : Int32) then (gdp (M.2.2 0 = t + 3 ∨ M.2.2 0 = t + 11) (bd (f_X10_mod (M.1 (t + 19 + 1 + 5 + 1) 0) ((64 : Int32) * (M.1 (M.2.2 0) 0)) M) (fun u8 M9 => some (.inl u8, M9)))) else if x1_ = (14 : Int32) then (some (.inl (M.1 (t + 19 + 1 + 5) 8), M)) else none
set_option maxRecDepth 20000 in
theorem c_X10_set {G : Ctx} (hfl : (gl G).stackTraces = false) (hW : WFG G) {t : Nat} {x1_ : Int32} {M M' : Mem} {r : Int32 ⊕ Nat} (h0 : hs G t (0, 10)) (hf : f_X10_set t x1_ M = some (r, M')) : CtX G yX10_set cX10_set 3 (some .int) 10 200 [.ref t, .int x1_] M r M' := by
  refine ct_x hfl hW (by decide +kernel) (Nat.le_of_ble_eq_true rfl) (by decide) (fun w h hr ht => ?_)
  have h : Rb G cX10_set RX10 3 10 200 w := h
  refine (?_ : E (fun q => q = (r, M')) (f_X10_set t x1_ M) (w M 0 [(0, .ref t), (1, .int x1_)] [])) _ hf rfl
  unfold f_X10_set
  refine E.m (h.aload_n 0 dX10_set_0 rfl) ?_
  refine E.m (h.get h0 lf_RX10_26 dX10_set_1 fv_10_2) ?_
  refine E.m (h.get (hW.clo 35 h0 rfl) lf_RX10_77 dX10_set_4 fv_8_0) ?_
  refine E.m (h.astore_n dX10_set_7 (by decide) rfl) ?_
  refine E.m (h.iload_n 2 dX10_set_8 rfl) ?_
  refine E.sw (fun hc k => h.tabOut (tgt := 220) dX10_set_9 hc (by decide) k) ?_ (fun hn => ?_)
  · exact E.some (ret_t ht th_176_180 (is := 223) 18 rfl ⟨dX10_set_220, dX10_set_223, Or.inl ⟨dX10_set_224, dX10_set_226, dX10_set_229⟩⟩)
  refine E.sw (fun hc k => h.tabIn (tgt := 84) dX10_set_9 (by rw [hc]; decide) (by rw [hc]; decide) (by rw [hc]; rfl) (by decide) k) ?_ (fun _ => ?_)
  · refine E.m (h.aload_n 1 dX10_set_84 rfl) ?_
    refine E.gd (fun _ k => h.get h0 lf_RX10_19 dX10_set_85 fv_10_1 k) (fun hd1 => ?_)
    refine E.m (h.get (hs2 hd1 (hW.clo 38 h0 rfl) (hW.clo 39 h0 rfl)) lf_RX10_134 dX10_set_88 fv_3_0) ?_
    exact E.some (ret_x hr rfl dX10_set_91)
  refine E.sw (fun hc k => h.tabIn (tgt := 92) dX10_set_9 (by rw [hc]; decide) (by rw [hc]; decide) (by rw [hc]; rfl) (by decide) k) ?_ (fun _ => ?_)
  · refine E.m (h.aload_n 0 dX10_set_92 rfl) ?_
    refine E.m (h.get (hW.clo 25 (hW.clo 35 h0 rfl) rfl) lf_RX10_104 dX10_set_93 fv_9_2) ?_
    refine E.m (h.get (hW.clo 33 (hW.clo 25 (hW.clo 35 h0 rfl) rfl) rfl) lf_RX10_181 dX10_set_96 fv_5_1) ?_
    exact E.some (ret_x hr rfl dX10_set_99)
  refine E.sw (fun hc k => h.tabIn (tgt := 100) dX10_set_9 (by rw [hc]; decide) (by rw [hc]; decide) (by rw [hc]; rfl) (by decide) k) ?_ (fun _ => ?_)
  · refine E.m (h.aload_n 1 dX10_set_100 rfl) ?_
    refine E.gd (fun _ k => h.get h0 lf_RX10_19 dX10_set_101 fv_10_1 k) (fun hd2 => ?_)
    refine E.m (h.get (hs2 hd2 (hW.clo 38 h0 rfl) (hW.clo 39 h0 rfl)) lf_RX10_184 dX10_set_104 fv_3_2) ?_
    exact E.some (ret_x hr rfl dX10_set_107)
  refine E.sw (fun hc k => h.tabIn (tgt := 108) dX10_set_9 (by rw [hc]; decide) (by rw [hc]; decide) (by rw [hc]; rfl) (by decide) k) ?_ (fun _ => ?_)
  · refine E.m (h.aload_n 1 dX10_set_108 rfl) ?_
    refine E.gd (fun _ k => h.get h0 lf_RX10_19 dX10_set_109 fv_10_1 k) (fun hd3 => ?_)
    refine E.m (h.get (hs2 hd3 (hW.clo 38 h0 rfl) (hW.clo 39 h0 rfl)) lf_RX10_187 dX10_set_112 fv_3_3) ?_
    exact E.some (ret_x hr rfl dX10_set_115)
  refine E.sw (fun hc k => h.tabIn (tgt := 116) dX10_set_9 (by rw [hc]; decide) (by rw [hc]; decide) (by rw [hc]; rfl) (by decide) k) ?_ (fun _ => ?_)
  · refine E.m (h.aload_n 1 dX10_set_116 rfl) ?_
    refine E.gd (fun _ k => h.get h0 lf_RX10_19 dX10_set_117 fv_10_1 k) (fun hd4 => ?_)
    refine E.m (h.get (hs2 hd4 (hW.clo 38 h0 rfl) (hW.clo 39 h0 rfl)) lf_RX10_190 dX10_set_120 fv_3_4) ?_
    exact E.some (ret_x hr rfl dX10_set_123)
  refine E.sw (fun hc k => h.tabIn (tgt := 124) dX10_set_9 (by rw [hc]; decide) (by rw [hc]; decide) (by rw [hc]; rfl) (by decide) k) ?_ (fun _ => ?_)
  · refine E.m (h.aload_n 0 dX10_set_124 rfl) ?_
    refine E.m (h.get (hW.clo 25 (hW.clo 35 h0 rfl) rfl) lf_RX10_86 dX10_set_125 fv_9_1) ?_
    refine E.m (h.get (hW.clo 32 (hW.clo 25 (hW.clo 35 h0 rfl) rfl) rfl) lf_RX10_193 dX10_set_128 fv_1_0) ?_
    exact E.some (ret_x hr rfl dX10_set_131)
  refine E.sw (fun hc k => h.tabIn (tgt := 132) dX10_set_9 (by rw [hc]; decide) (by rw [hc]; decide) (by rw [hc]; rfl) (by decide) k) ?_ (fun _ => ?_)
  · refine E.m (h.aload_n 1 dX10_set_132 rfl) ?_
    refine E.gd (fun _ k => h.get h0 lf_RX10_19 dX10_set_133 fv_10_1 k) (fun hd5 => ?_)
    refine E.m (h.get (hs2 hd5 (hW.clo 38 h0 rfl) (hW.clo 39 h0 rfl)) lf_RX10_196 dX10_set_136 fv_3_6) ?_
    exact E.some (ret_x hr rfl dX10_set_139)
  refine E.sw (fun hc k => h.tabIn (tgt := 140) dX10_set_9 (by rw [hc]; decide) (by rw [hc]; decide) (by rw [hc]; rfl) (by decide) k) ?_ (fun _ => ?_)
  · refine E.m (h.aload_n 1 dX10_set_140 rfl) ?_
    refine E.gd (fun _ k => h.get h0 lf_RX10_19 dX10_set_141 fv_10_1 k) (fun hd6 => ?_)
    refine E.m (h.get (hs2 hd6 (hW.clo 38 h0 rfl) (hW.clo 39 h0 rfl)) lf_RX10_199 dX10_set_144 fv_3_7) ?_
    exact E.some (ret_x hr rfl dX10_set_147)
  refine E.sw (fun hc k => h.tabIn (tgt := 148) dX10_set_9 (by rw [hc]; decide) (by rw [hc]; decide) (by rw [hc]; rfl) (by decide) k) ?_ (fun _ => ?_)
  · refine E.m (h.aload_n 0 dX10_set_148 rfl) ?_
    refine E.m (h.get (hW.clo 25 (hW.clo 35 h0 rfl) rfl) lf_RX10_104 dX10_set_149 fv_9_2) ?_
    refine E.m (h.get (hW.clo 33 (hW.clo 25 (hW.clo 35 h0 rfl) rfl) rfl) lf_RX10_202 dX10_set_152 fv_5_2) ?_
    exact E.some (ret_x hr rfl dX10_set_155)
  refine E.sw (fun hc k => h.tabIn (tgt := 156) dX10_set_9 (by rw [hc]; decide) (by rw [hc]; decide) (by rw [hc]; rfl) (by decide) k) ?_ (fun _ => ?_)
  · refine E.m (h.aload_n 0 dX10_set_156 rfl) ?_
    refine E.m (h.get (hW.clo 25 (hW.clo 35 h0 rfl) rfl) lf_RX10_86 dX10_set_157 fv_9_1) ?_
    refine E.m (h.get (hW.clo 32 (hW.clo 25 (hW.clo 35 h0 rfl) rfl) rfl) lf_RX10_205 dX10_set_160 fv_1_6) ?_
    exact E.some (ret_x hr rfl dX10_set_163)
  refine E.sw (fun hc k => h.tabIn (tgt := 164) dX10_set_9 (by rw [hc]; decide) (by rw [hc]; decide) (by rw [hc]; rfl) (by decide) k) ?_ (fun _ => ?_)
  · refine E.m (h.aload_n 0 dX10_set_164 rfl) ?_
    refine E.m (h.get (hW.clo 25 (hW.clo 35 h0 rfl) rfl) lf_RX10_86 dX10_set_165 fv_9_1) ?_
    refine E.m (h.get (hW.clo 32 (hW.clo 25 (hW.clo 35 h0 rfl) rfl) rfl) lf_RX10_208 dX10_set_168 fv_1_7) ?_
    exact E.some (ret_x hr rfl dX10_set_171)
  refine E.sw (fun hc k => h.tabIn (tgt := 172) dX10_set_9 (by rw [hc]; decide) (by rw [hc]; decide) (by rw [hc]; rfl) (by decide) k) ?_ (fun _ => ?_)
  · refine E.m (h.aload_n 0 dX10_set_172 rfl) ?_
    refine E.m (h.get (hW.clo 25 (hW.clo 35 h0 rfl) rfl) lf_RX10_86 dX10_set_173 fv_9_1) ?_
    refine E.m (h.get (hW.clo 32 (hW.clo 25 (hW.clo 35 h0 rfl) rfl) rfl) lf_RX10_211 dX10_set_176 fv_1_1) ?_
    exact E.some (ret_x hr rfl dX10_set_179)
  refine E.sw (fun hc k => h.tabIn (tgt := 180) dX10_set_9 (by rw [hc]; decide) (by rw [hc]; decide) (by rw [hc]; rfl) (by decide) k) ?_ (fun _ => ?_)
  · refine E.m (h.aload_n 0 dX10_set_180 rfl) ?_
    refine E.m (h.get (hW.clo 25 (hW.clo 35 h0 rfl) rfl) lf_RX10_104 dX10_set_181 fv_9_2) ?_
    refine E.m (h.get (hW.clo 33 (hW.clo 25 (hW.clo 35 h0 rfl) rfl) rfl) lf_RX10_214 dX10_set_184 fv_5_5) ?_
    exact E.some (ret_x hr rfl dX10_set_187)
  refine E.sw (fun hc k => h.tabIn (tgt := 188) dX10_set_9 (by rw [hc]; decide) (by rw [hc]; decide) (by rw [hc]; rfl) (by decide) k) ?_ (fun _ => ?_)
  · refine E.m (h.aload_n 0 dX10_set_188 rfl) ?_
    refine E.m (h.get (hW.clo 25 (hW.clo 35 h0 rfl) rfl) lf_RX10_104 dX10_set_189 fv_9_2) ?_
    refine E.m (h.get (hW.clo 33 (hW.clo 25 (hW.clo 35 h0 rfl) rfl) rfl) lf_RX10_108 dX10_set_192 fv_5_10) ?_
    refine E.m (h.get (hW.clo 14 (hW.clo 33 (hW.clo 25 (hW.clo 35 h0 rfl) rfl) rfl) rfl) lf_RX10_215 dX10_set_195 fv_0_0) ?_
    refine E.m (h.bipush (v := (64 : Int32)) dX10_set_198 (by decide)) ?_
    refine E.m (h.aload_n 1 dX10_set_200 rfl) ?_
    refine E.gd (fun _ k => h.get h0 lf_RX10_19 dX10_set_201 fv_10_1 k) (fun hd7 => ?_)
    refine E.m (h.get (hs2 hd7 (hW.clo 38 h0 rfl) (hW.clo 39 h0 rfl)) lf_RX10_134 dX10_set_204 fv_3_0) ?_
    refine E.m (h.imul dX10_set_207) ?_
    refine E.bnd (fun u8 M9 => w M9 211 [(2, .ref (t + 19 + 1)), (0, .ref t), (1, .int x1_)] [.int u8]) (fun u8 M9 hf k => h.callS (As := [.int (M.1 (t + 19 + 1 + 5 + 1) 0), .int ((64 : Int32) * (M.1 (M.2.2 0) 0))]) (rest := []) (c_X10_mod hW hf) lm_X10_mod ls_m_X10_mod ll_RX10_216 rfl rfl (Nat.le_of_ble_eq_true rfl) (by decide) dX10_set_208 rfl k) (fun u8 M9 => ?_)
    exact E.some (ret_x hr rfl dX10_set_211)
  refine E.sw (fun hc k => h.tabIn (tgt := 212) dX10_set_9 (by rw [hc]; decide) (by rw [hc]; decide) (by rw [hc]; rfl) (by decide) k) ?_ (fun _ => ?_)
  · refine E.m (h.aload_n 0 dX10_set_212 rfl) ?_
    refine E.m (h.get (hW.clo 25 (hW.clo 35 h0 rfl) rfl) lf_RX10_104 dX10_set_213 fv_9_2) ?_
    refine E.m (h.get (hW.clo 33 (hW.clo 25 (hW.clo 35 h0 rfl) rfl) rfl) lf_RX10_220 dX10_set_216 fv_5_8) ?_
    exact E.some (ret_x hr rfl dX10_set_219)
  exact E.none
def f_X10_flying (t : Nat) (x1_ : Int32) (x2_ : Int32) (M : Mem) : Option ((Int32 ⊕ Nat) × Mem) :=
  jn0 (fun _ => some (.inr 0, M)) (fun J32 => if x1_ < 0 then (J32 ()) else (if (M.1 (t + 19 + 1 + 1) 8) ≤ x1_ then (J32 ()) else (if x2_ < 0 then (J32 ()) else (if x2_ ≤ (2 : Int32) then (if x2_ = 0 then (bd (f_X10_at (t + 19 + 1 + 1 + 1) 40 x1_ M) (fun u7 M8 => some (.inl u7, M8))) else (jn2 (fun z1 M2 => some (.inl z1, M2)) (fun J79 => if x2_ = (1 : Int32) then (bd (f_X10_at (t + 19 + 1 + 1 + 2) 40 x1_ M) (fun u5 M6 => J79 u5 M6)) else (bd (f_X10_at (t + 19 + 1 + 1 + 3) 40 x1_ M) (fun u3 M4 => J79 u3 M4))))) else (J32 ())))))
set_option maxRecDepth 20000 in
theorem c_X10_flying {G : Ctx} (hfl : (gl G).stackTraces = false) (hW : WFG G) {t : Nat} {x1_ : Int32} {x2_ : Int32} {M M' : Mem} {r : Int32 ⊕ Nat} (h0 : hs G t (0, 10)) (hf : f_X10_flying t x1_ x2_ M = some (r, M')) : CtX G yX10_flying cX10_flying 4 (some .int) 10 200 [.ref t, .int x1_, .int x2_] M r M' := by
  refine ct_x hfl hW (by decide +kernel) (Nat.le_of_ble_eq_true rfl) (by decide) (fun w h hr ht => ?_)
  have h : Rb G cX10_flying RX10 4 10 200 w := h
  refine (?_ : E (fun q => q = (r, M')) (f_X10_flying t x1_ x2_ M) (w M 0 [(0, .ref t), (1, .int x1_), (2, .int x2_)] [])) _ hf rfl
  unfold f_X10_flying
  refine E.m (h.aload_n 0 dX10_flying_0 rfl) ?_
  refine E.m (h.get h0 lf_RX10_26 dX10_flying_1 fv_10_2) ?_
  refine E.m (h.get (hW.clo 35 h0 rfl) lf_RX10_77 dX10_flying_4 fv_8_0) ?_
  refine E.m (h.get (hW.clo 25 (hW.clo 35 h0 rfl) rfl) lf_RX10_86 dX10_flying_7 fv_9_1) ?_
  refine E.m (h.astore_n dX10_flying_10 (by decide) rfl) ?_
  refine E.m (h.iload_n 2 dX10_flying_11 rfl) ?_
  refine E.join0 (fun _ => w M 32 [(0, .ref t), (1, .int x1_), (2, .int x2_), (3, .ref (t + 19 + 1 + 1))] []) (fun _ => ?_) (fun J32 hJ32 => ?_)
  · exact E.some (ret_t ht th_176_180 (is := 225) 19 rfl ⟨dX10_flying_32, dX10_flying_35, Or.inl ⟨dX10_flying_36, dX10_flying_38, dX10_flying_41⟩⟩)
  refine E.br (fun k1 k2 => h.if_lt (tgt := 32) dX10_flying_12 (by decide) k1 k2) ?_ ?_
  · refine E.m (h.sub [1, 2, 3, 0] rfl) ?_
    exact hJ32 ()
  · refine E.m (h.iload_n 2 dX10_flying_15 rfl) ?_
    refine E.m (h.aload_n 0 dX10_flying_16 rfl) ?_
    refine E.m (h.get (hW.clo 32 (hW.clo 25 (hW.clo 35 h0 rfl) rfl) rfl) lf_RX10_101 dX10_flying_17 fv_1_8) ?_
    refine E.br (fun k1 k2 => h.icmp_ge (tgt := 32) dX10_flying_20 (by decide) k1 k2) ?_ ?_
    · refine E.m (h.sub [1, 2, 3, 0] rfl) ?_
      exact hJ32 ()
    · refine E.m (h.iload_n 3 dX10_flying_23 rfl) ?_
      refine E.br (fun k1 k2 => h.if_lt (tgt := 32) dX10_flying_24 (by decide) k1 k2) ?_ ?_
      · refine E.m (h.sub [1, 2, 3, 0] rfl) ?_
        exact hJ32 ()
      · refine E.m (h.iload_n 3 dX10_flying_27 rfl) ?_
        refine E.m (h.iconst (v := (2 : Int32)) dX10_flying_28 (by decide)) ?_
        refine E.br (fun k1 k2 => h.icmp_le (tgt := 42) dX10_flying_29 (by decide) k1 k2) ?_ ?_
        · refine E.m (h.iload_n 3 dX10_flying_42 rfl) ?_
          refine E.br (fun k1 k2 => h.if_ne (tgt := 55) dX10_flying_43 (by decide) k2 k1) ?_ ?_
          · refine E.m (h.aload_n 0 dX10_flying_46 rfl) ?_
            refine E.m (h.get (hW.clo 32 (hW.clo 25 (hW.clo 35 h0 rfl) rfl) rfl) lf_RX10_227 dX10_flying_47 fv_1_9) ?_
            refine E.m (h.iload_n 2 dX10_flying_50 rfl) ?_
            refine E.bnd (fun u7 M8 => w M8 54 [(3, .ref (t + 19 + 1 + 1)), (0, .ref t), (1, .int x1_), (2, .int x2_)] [.int u7]) (fun u7 M8 hf k => h.callS (As := [.ref (t + 19 + 1 + 1 + 1), .int x1_]) (rest := []) (c_X10_at hW (hW.clo 2 (hW.clo 32 (hW.clo 25 (hW.clo 35 h0 rfl) rfl) rfl) rfl) hf) lm_X10_at ls_m_X10_at ll_RX10_172 rfl rfl (Nat.le_of_ble_eq_true rfl) (by decide) dX10_flying_51 rfl k) (fun u7 M8 => ?_)
            exact E.some (ret_x hr rfl dX10_flying_54)
          · refine E.m (h.iload_n 3 dX10_flying_55 rfl) ?_
            refine E.m (h.iconst (v := (1 : Int32)) dX10_flying_56 (by decide)) ?_
            refine E.join2 (fun z1 M2 => w M2 79 [(0, .ref t), (1, .int x1_), (2, .int x2_), (3, .ref (t + 19 + 1 + 1))] [.int z1]) (fun z1 M2 => ?_) (fun J79 hJ79 => ?_)
            · exact E.some (ret_x hr rfl dX10_flying_79)
            refine E.br (fun k1 k2 => h.icmp_ne (tgt := 71) dX10_flying_57 (by decide) k2 k1) ?_ ?_
            · refine E.m (h.aload_n 0 dX10_flying_60 rfl) ?_
              refine E.m (h.get (hW.clo 32 (hW.clo 25 (hW.clo 35 h0 rfl) rfl) rfl) lf_RX10_230 dX10_flying_61 fv_1_10) ?_
              refine E.m (h.iload_n 2 dX10_flying_64 rfl) ?_
              refine E.bnd (fun u5 M6 => w M6 68 [(3, .ref (t + 19 + 1 + 1)), (0, .ref t), (1, .int x1_), (2, .int x2_)] [.int u5]) (fun u5 M6 hf k => h.callS (As := [.ref (t + 19 + 1 + 1 + 2), .int x1_]) (rest := []) (c_X10_at hW (hW.clo 3 (hW.clo 32 (hW.clo 25 (hW.clo 35 h0 rfl) rfl) rfl) rfl) hf) lm_X10_at ls_m_X10_at ll_RX10_172 rfl rfl (Nat.le_of_ble_eq_true rfl) (by decide) dX10_flying_65 rfl k) (fun u5 M6 => ?_)
              refine E.m (h.goto (tgt := 79) dX10_flying_68 (by decide)) ?_
              refine E.m (h.sub [1, 2, 3, 0] rfl) ?_
              exact hJ79 _ _
            · refine E.m (h.aload_n 0 dX10_flying_71 rfl) ?_
              refine E.m (h.get (hW.clo 32 (hW.clo 25 (hW.clo 35 h0 rfl) rfl) rfl) lf_RX10_233 dX10_flying_72 fv_1_11) ?_
              refine E.m (h.iload_n 2 dX10_flying_75 rfl) ?_
              refine E.bnd (fun u3 M4 => w M4 79 [(3, .ref (t + 19 + 1 + 1)), (0, .ref t), (1, .int x1_), (2, .int x2_)] [.int u3]) (fun u3 M4 hf k => h.callS (As := [.ref (t + 19 + 1 + 1 + 3), .int x1_]) (rest := []) (c_X10_at hW (hW.clo 4 (hW.clo 32 (hW.clo 25 (hW.clo 35 h0 rfl) rfl) rfl) rfl) hf) lm_X10_at ls_m_X10_at ll_RX10_172 rfl rfl (Nat.le_of_ble_eq_true rfl) (by decide) dX10_flying_76 rfl k) (fun u3 M4 => ?_)
              refine E.m (h.sub [1, 2, 3, 0] rfl) ?_
              exact hJ79 _ _
        · refine E.m (h.sub [1, 2, 3, 0] rfl) ?_
          exact hJ32 ()
def f_X10_slot (t : Nat) (x1_ : Int32) (M : Mem) : Option ((Int32 ⊕ Nat) × Mem) :=
  jn0 (fun _ => some (.inr 0, M)) (fun J10 => if x1_ < 0 then (J10 ()) else (if x1_ < (64 : Int32) then (gdp (M.2.2 0 = t + 3 ∨ M.2.2 0 = t + 11) (bd (f_X0_waiting (t + 19 + 1 + 5 + 1) x1_ (M.1 (M.2.2 0) 0) M) (fun u2 M3 => some (.inl u2, M3)))) else (J10 ())))
set_option maxRecDepth 20000 in
theorem c_X10_slot {G : Ctx} (hfl : (gl G).stackTraces = false) (hW : WFG G) {t : Nat} {x1_ : Int32} {M M' : Mem} {r : Int32 ⊕ Nat} (h0 : hs G t (0, 10)) (hf : f_X10_slot t x1_ M = some (r, M')) : CtX G yX10_slot cX10_slot 2 (some .int) 10 200 [.ref t, .int x1_] M r M' := by
  refine ct_x hfl hW (by decide +kernel) (Nat.le_of_ble_eq_true rfl) (by decide) (fun w h hr ht => ?_)
  have h : Rb G cX10_slot RX10 2 10 200 w := h
  refine (?_ : E (fun q => q = (r, M')) (f_X10_slot t x1_ M) (w M 0 [(0, .ref t), (1, .int x1_)] [])) _ hf rfl
  unfold f_X10_slot
  refine E.m (h.iload_n 1 dX10_slot_0 rfl) ?_
  refine E.join0 (fun _ => w M 10 [(0, .ref t), (1, .int x1_)] []) (fun _ => ?_) (fun J10 hJ10 => ?_)
  · exact E.some (ret_t ht th_176_180 (is := 236) 20 rfl ⟨dX10_slot_10, dX10_slot_13, Or.inl ⟨dX10_slot_14, dX10_slot_16, dX10_slot_19⟩⟩)
  refine E.br (fun k1 k2 => h.if_lt (tgt := 10) dX10_slot_1 (by decide) k1 k2) ?_ ?_
  · exact hJ10 ()
  · refine E.m (h.iload_n 1 dX10_slot_4 rfl) ?_
    refine E.m (h.bipush (v := (64 : Int32)) dX10_slot_5 (by decide)) ?_
    refine E.br (fun k1 k2 => h.icmp_lt (tgt := 20) dX10_slot_7 (by decide) k1 k2) ?_ ?_
    · refine E.m (h.aload_n 0 dX10_slot_20 rfl) ?_
      refine E.m (h.get h0 lf_RX10_26 dX10_slot_21 fv_10_2) ?_
      refine E.m (h.get (hW.clo 35 h0 rfl) lf_RX10_77 dX10_slot_24 fv_8_0) ?_
      refine E.m (h.get (hW.clo 25 (hW.clo 35 h0 rfl) rfl) lf_RX10_104 dX10_slot_27 fv_9_2) ?_
      refine E.m (h.get (hW.clo 33 (hW.clo 25 (hW.clo 35 h0 rfl) rfl) rfl) lf_RX10_108 dX10_slot_30 fv_5_10) ?_
      refine E.m (h.iload_n 1 dX10_slot_33 rfl) ?_
      refine E.m (h.aload_n 0 dX10_slot_34 rfl) ?_
      refine E.gd (fun _ k => h.get h0 lf_RX10_19 dX10_slot_35 fv_10_1 k) (fun hd1 => ?_)
      refine E.m (h.get (hs2 hd1 (hW.clo 38 h0 rfl) (hW.clo 39 h0 rfl)) lf_RX10_134 dX10_slot_38 fv_3_0) ?_
      refine E.bnd (fun u2 M3 => w M3 44 [(0, .ref t), (1, .int x1_)] [.int u2]) (fun u2 M3 hf k => h.callV (As := [.int x1_, .int (M.1 (M.2.2 0) 0)]) (rest := []) (c_X0_waiting hW (hW.clo 14 (hW.clo 33 (hW.clo 25 (hW.clo 35 h0 rfl) rfl) rfl) rfl) hf) lm_X0_waiting lv_m_X0_waiting ll_RX10_238 (hW.clo 14 (hW.clo 33 (hW.clo 25 (hW.clo 35 h0 rfl) rfl) rfl) rfl) lc_0 rfl rfl (Nat.le_of_ble_eq_true rfl) (by decide) dX10_slot_41 rfl k) (fun u2 M3 => ?_)
      exact E.some (ret_x hr rfl dX10_slot_44)
    · exact hJ10 ()
def f_X10_played (t : Nat) (x1_ : Int32) (x2_ : Int32) (M : Mem) : Option ((Int32 ⊕ Nat) × Mem) :=
  jn1 (fun M1 => some (.inr 0, M1)) (fun J35 => if x1_ < 0 then (J35 M) else (bd (f_X4_octetsKept (t + 19 + 1 + 5 + 4) M) (fun u2 M3 => if u2 ≤ x1_ then (J35 M3) else (if x2_ < 0 then (J35 M3) else (if x2_ ≤ (1 : Int32) then (if x2_ = 0 then (bd (f_X4_latest (t + 19 + 1 + 5 + 4) x1_ M3) (fun u7 M8 => some (.inl u7, M8))) else (bd (f_X4_latestIsFilled (t + 19 + 1 + 5 + 4) x1_ M3) (fun u4 M5 => jn1 (fun z6 => some (.inl z6, M5)) (fun J68 => if u4 = 0 then (J68 (0 : Int32)) else (J68 (1 : Int32)))))) else (J35 M3))))))
set_option maxRecDepth 20000 in
theorem c_X10_played {G : Ctx} (hfl : (gl G).stackTraces = false) (hW : WFG G) {t : Nat} {x1_ : Int32} {x2_ : Int32} {M M' : Mem} {r : Int32 ⊕ Nat} (h0 : hs G t (0, 10)) (hf : f_X10_played t x1_ x2_ M = some (r, M')) : CtX G yX10_played cX10_played 4 (some .int) 10 200 [.ref t, .int x1_, .int x2_] M r M' := by
  refine ct_x hfl hW (by decide +kernel) (Nat.le_of_ble_eq_true rfl) (by decide) (fun w h hr ht => ?_)
  have h : Rb G cX10_played RX10 4 10 200 w := h
  refine (?_ : E (fun q => q = (r, M')) (f_X10_played t x1_ x2_ M) (w M 0 [(0, .ref t), (1, .int x1_), (2, .int x2_)] [])) _ hf rfl
  unfold f_X10_played
  refine E.m (h.aload_n 0 dX10_played_0 rfl) ?_
  refine E.m (h.get h0 lf_RX10_26 dX10_played_1 fv_10_2) ?_
  refine E.m (h.get (hW.clo 35 h0 rfl) lf_RX10_77 dX10_played_4 fv_8_0) ?_
  refine E.m (h.get (hW.clo 25 (hW.clo 35 h0 rfl) rfl) lf_RX10_104 dX10_played_7 fv_9_2) ?_
  refine E.m (h.get (hW.clo 33 (hW.clo 25 (hW.clo 35 h0 rfl) rfl) rfl) lf_RX10_122 dX10_played_10 fv_5_11) ?_
  refine E.m (h.astore_n dX10_played_13 (by decide) rfl) ?_
  refine E.m (h.iload_n 2 dX10_played_14 rfl) ?_
  refine E.join1 (fun M1 => w M1 35 [(0, .ref t), (1, .int x1_), (2, .int x2_), (3, .ref (t + 19 + 1 + 5 + 4))] []) (fun M1 => ?_) (fun J35 hJ35 => ?_)
  · exact E.some (ret_t ht th_176_180 (is := 244) 21 rfl ⟨dX10_played_35, dX10_played_38, Or.inl ⟨dX10_played_39, dX10_played_41, dX10_played_44⟩⟩)
  refine E.br (fun k1 k2 => h.if_lt (tgt := 35) dX10_played_15 (by decide) k1 k2) ?_ ?_
  · refine E.m (h.sub [1, 2, 3, 0] rfl) ?_
    exact hJ35 _
  · refine E.m (h.iload_n 2 dX10_played_18 rfl) ?_
    refine E.m (h.aload_n 0 dX10_played_19 rfl) ?_
    refine E.bnd (fun u2 M3 => w M3 23 [(3, .ref (t + 19 + 1 + 5 + 4)), (0, .ref t), (1, .int x1_), (2, .int x2_)] [.int u2, .int x1_]) (fun u2 M3 hf k => h.callV (As := []) (rest := [.int x1_]) (c_X4_octetsKept hW (hW.clo 15 (hW.clo 33 (hW.clo 25 (hW.clo 35 h0 rfl) rfl) rfl) rfl) hf) lm_X4_octetsKept lv_m_X4_octetsKept ll_RX10_241 (hW.clo 15 (hW.clo 33 (hW.clo 25 (hW.clo 35 h0 rfl) rfl) rfl) rfl) lc_4 rfl rfl (Nat.le_of_ble_eq_true rfl) (by decide) dX10_played_20 rfl k) (fun u2 M3 => ?_)
    refine E.br (fun k1 k2 => h.icmp_ge (tgt := 35) dX10_played_23 (by decide) k1 k2) ?_ ?_
    · refine E.m (h.sub [1, 2, 3, 0] rfl) ?_
      exact hJ35 _
    · refine E.m (h.iload_n 3 dX10_played_26 rfl) ?_
      refine E.br (fun k1 k2 => h.if_lt (tgt := 35) dX10_played_27 (by decide) k1 k2) ?_ ?_
      · refine E.m (h.sub [1, 2, 3, 0] rfl) ?_
        exact hJ35 _
      · refine E.m (h.iload_n 3 dX10_played_30 rfl) ?_
        refine E.m (h.iconst (v := (1 : Int32)) dX10_played_31 (by decide)) ?_
        refine E.br (fun k1 k2 => h.icmp_le (tgt := 45) dX10_played_32 (by decide) k1 k2) ?_ ?_
        · refine E.m (h.iload_n 3 dX10_played_45 rfl) ?_
          refine E.br (fun k1 k2 => h.if_ne (tgt := 55) dX10_played_46 (by decide) k2 k1) ?_ ?_
          · refine E.m (h.aload_n 0 dX10_played_49 rfl) ?_
            refine E.m (h.iload_n 2 dX10_played_50 rfl) ?_
            refine E.bnd (fun u7 M8 => w M8 54 [(3, .ref (t + 19 + 1 + 5 + 4)), (0, .ref t), (1, .int x1_), (2, .int x2_)] [.int u7]) (fun u7 M8 hf k => h.callV (As := [.int x1_]) (rest := []) (c_X4_latest hW (hW.clo 15 (hW.clo 33 (hW.clo 25 (hW.clo 35 h0 rfl) rfl) rfl) rfl) hf) lm_X4_latest lv_m_X4_latest ll_RX10_246 (hW.clo 15 (hW.clo 33 (hW.clo 25 (hW.clo 35 h0 rfl) rfl) rfl) rfl) lc_4 rfl rfl (Nat.le_of_ble_eq_true rfl) (by decide) dX10_played_51 rfl k) (fun u7 M8 => ?_)
            exact E.some (ret_x hr rfl dX10_played_54)
          · refine E.m (h.aload_n 0 dX10_played_55 rfl) ?_
            refine E.m (h.iload_n 2 dX10_played_56 rfl) ?_
            refine E.bnd (fun u4 M5 => w M5 60 [(3, .ref (t + 19 + 1 + 5 + 4)), (0, .ref t), (1, .int x1_), (2, .int x2_)] [.int u4]) (fun u4 M5 hf k => h.callV (As := [.int x1_]) (rest := []) (c_X4_latestIsFilled hW (hW.clo 15 (hW.clo 33 (hW.clo 25 (hW.clo 35 h0 rfl) rfl) rfl) rfl) hf) lm_X4_latestIsFilled lv_m_X4_latestIsFilled ll_RX10_249 (hW.clo 15 (hW.clo 33 (hW.clo 25 (hW.clo 35 h0 rfl) rfl) rfl) rfl) lc_4 rfl rfl (Nat.le_of_ble_eq_true rfl) (by decide) dX10_played_57 rfl k) (fun u4 M5 => ?_)
            refine E.join1 (fun z6 => w M5 68 [(0, .ref t), (1, .int x1_), (2, .int x2_), (3, .ref (t + 19 + 1 + 5 + 4))] [.int z6]) (fun z6 => ?_) (fun J68 hJ68 => ?_)
            · exact E.some (ret_x hr rfl dX10_played_68)
            refine E.br (fun k1 k2 => h.if_eq (tgt := 67) dX10_played_60 (by decide) k1 k2) ?_ ?_
            · refine E.m (h.iconst (v := (0 : Int32)) dX10_played_67 (by decide)) ?_
              refine E.m (h.sub [1, 2, 3, 0] rfl) ?_
              exact hJ68 _
            · refine E.m (h.iconst (v := (1 : Int32)) dX10_played_63 (by decide)) ?_
              refine E.m (h.goto (tgt := 68) dX10_played_64 (by decide)) ?_
              refine E.m (h.sub [1, 2, 3, 0] rfl) ?_
              exact hJ68 _
        · refine E.m (h.sub [1, 2, 3, 0] rfl) ?_
          exact hJ35 _
def f_X10_spans (t : Nat) (x1_ : Int32) (x2_ : Int32) (M : Mem) : Option ((Int32 ⊕ Nat) × Mem) :=
  jn0 (fun _ => some (.inr 1, M)) (fun J12 => if x1_ < (1 : Int32) then (J12 ()) else (if x1_ ≤ (128 : Int32) then (bd (f_X4_longRows (t + 19 + 1 + 5 + 4) x1_ x2_ M) (fun u1 M2 => if 0 ≤ u1 then (some (.inl u1, M2)) else (some (.inr 0, M2)))) else (J12 ())))
set_option maxRecDepth 20000 in
theorem c_X10_spans {G : Ctx} (hfl : (gl G).stackTraces = false) (hW : WFG G) {t : Nat} {x1_ : Int32} {x2_ : Int32} {M M' : Mem} {r : Int32 ⊕ Nat} (h0 : hs G t (0, 10)) (hf : f_X10_spans t x1_ x2_ M = some (r, M')) : CtX G yX10_spans cX10_spans 4 (some .int) 10 200 [.ref t, .int x1_, .int x2_] M r M' := by
  refine ct_x hfl hW (by decide +kernel) (Nat.le_of_ble_eq_true rfl) (by decide) (fun w h hr ht => ?_)
  have h : Rb G cX10_spans RX10 4 10 200 w := h
  refine (?_ : E (fun q => q = (r, M')) (f_X10_spans t x1_ x2_ M) (w M 0 [(0, .ref t), (1, .int x1_), (2, .int x2_)] [])) _ hf rfl
  unfold f_X10_spans
  refine E.m (h.iload_n 1 dX10_spans_0 rfl) ?_
  refine E.m (h.iconst (v := (1 : Int32)) dX10_spans_1 (by decide)) ?_
  refine E.join0 (fun _ => w M 12 [(0, .ref t), (1, .int x1_), (2, .int x2_)] []) (fun _ => ?_) (fun J12 hJ12 => ?_)
  · exact E.some (ret_t ht th_52_56 (is := 253) 22 rfl ⟨dX10_spans_12, dX10_spans_15, Or.inl ⟨dX10_spans_16, dX10_spans_18, dX10_spans_21⟩⟩)
  refine E.br (fun k1 k2 => h.icmp_lt (tgt := 12) dX10_spans_2 (by decide) k1 k2) ?_ ?_
  · exact hJ12 ()
  · refine E.m (h.iload_n 1 dX10_spans_5 rfl) ?_
    refine E.m (h.sipush (v := (128 : Int32)) dX10_spans_6 (by decide)) ?_
    refine E.br (fun k1 k2 => h.icmp_le (tgt := 22) dX10_spans_9 (by decide) k1 k2) ?_ ?_
    · refine E.m (h.aload_n 0 dX10_spans_22 rfl) ?_
      refine E.m (h.get h0 lf_RX10_26 dX10_spans_23 fv_10_2) ?_
      refine E.m (h.get (hW.clo 35 h0 rfl) lf_RX10_77 dX10_spans_26 fv_8_0) ?_
      refine E.m (h.get (hW.clo 25 (hW.clo 35 h0 rfl) rfl) lf_RX10_104 dX10_spans_29 fv_9_2) ?_
      refine E.m (h.get (hW.clo 33 (hW.clo 25 (hW.clo 35 h0 rfl) rfl) rfl) lf_RX10_122 dX10_spans_32 fv_5_11) ?_
      refine E.m (h.iload_n 1 dX10_spans_35 rfl) ?_
      refine E.m (h.iload_n 2 dX10_spans_36 rfl) ?_
      refine E.bnd (fun u1 M2 => w M2 40 [(0, .ref t), (1, .int x1_), (2, .int x2_)] [.int u1]) (fun u1 M2 hf k => h.callV (As := [.int x1_, .int x2_]) (rest := []) (c_X4_longRows hW (hW.clo 15 (hW.clo 33 (hW.clo 25 (hW.clo 35 h0 rfl) rfl) rfl) rfl) hf) lm_X4_longRows lv_m_X4_longRows ll_RX10_255 (hW.clo 15 (hW.clo 33 (hW.clo 25 (hW.clo 35 h0 rfl) rfl) rfl) rfl) lc_4 rfl rfl (Nat.le_of_ble_eq_true rfl) (by decide) dX10_spans_37 rfl k) (fun u1 M2 => ?_)
      refine E.m (h.istore_n dX10_spans_40 (by decide) rfl) ?_
      refine E.m (h.iload_n 0 dX10_spans_41 rfl) ?_
      refine E.br (fun k1 k2 => h.if_ge (tgt := 56) dX10_spans_42 (by decide) k1 k2) ?_ ?_
      · refine E.m (h.iload_n 0 dX10_spans_56 rfl) ?_
        exact E.some (ret_x hr rfl dX10_spans_57)
      · exact E.some (ret_t ht th_176_180 (is := 258) 23 rfl ⟨dX10_spans_45, dX10_spans_48, Or.inr ⟨dX10_spans_49, dX10_spans_52, dX10_spans_55⟩⟩)
    · exact hJ12 ()
def f_X10_sample (t : Nat) (x1_ : Int32) (M : Mem) : Option ((Int32 ⊕ Nat) × Mem) :=
  jn1 (fun M1 => some (.inr 0, M1)) (fun J26 => if x1_ < 0 then (J26 M) else (bd (f_X4_samplesKept (t + 19 + 1 + 5 + 4) M) (fun u2 M3 => if x1_ < u2 then (bd (f_X4_sampleAt (t + 19 + 1 + 5 + 4) x1_ M3) (fun u4 M5 => some (.inl u4, M5))) else (J26 M3))))
set_option maxRecDepth 20000 in
theorem c_X10_sample {G : Ctx} (hfl : (gl G).stackTraces = false) (hW : WFG G) {t : Nat} {x1_ : Int32} {M M' : Mem} {r : Int32 ⊕ Nat} (h0 : hs G t (0, 10)) (hf : f_X10_sample t x1_ M = some (r, M')) : CtX G yX10_sample cX10_sample 3 (some .int) 10 200 [.ref t, .int x1_] M r M' := by
  refine ct_x hfl hW (by decide +kernel) (Nat.le_of_ble_eq_true rfl) (by decide) (fun w h hr ht => ?_)
  have h : Rb G cX10_sample RX10 3 10 200 w := h
  refine (?_ : E (fun q => q = (r, M')) (f_X10_sample t x1_ M) (w M 0 [(0, .ref t), (1, .int x1_)] [])) _ hf rfl
  unfold f_X10_sample
  refine E.m (h.aload_n 0 dX10_sample_0 rfl) ?_
  refine E.m (h.get h0 lf_RX10_26 dX10_sample_1 fv_10_2) ?_
  refine E.m (h.get (hW.clo 35 h0 rfl) lf_RX10_77 dX10_sample_4 fv_8_0) ?_
  refine E.m (h.get (hW.clo 25 (hW.clo 35 h0 rfl) rfl) lf_RX10_104 dX10_sample_7 fv_9_2) ?_
  refine E.m (h.get (hW.clo 33 (hW.clo 25 (hW.clo 35 h0 rfl) rfl) rfl) lf_RX10_122 dX10_sample_10 fv_5_11) ?_
  refine E.m (h.astore_n dX10_sample_13 (by decide) rfl) ?_
  refine E.m (h.iload_n 2 dX10_sample_14 rfl) ?_
  refine E.join1 (fun M1 => w M1 26 [(0, .ref t), (1, .int x1_), (2, .ref (t + 19 + 1 + 5 + 4))] []) (fun M1 => ?_) (fun J26 hJ26 => ?_)
  · exact E.some (ret_t ht th_176_180 (is := 260) 24 rfl ⟨dX10_sample_26, dX10_sample_29, Or.inr ⟨dX10_sample_30, dX10_sample_33, dX10_sample_36⟩⟩)
  refine E.br (fun k1 k2 => h.if_lt (tgt := 26) dX10_sample_15 (by decide) k1 k2) ?_ ?_
  · refine E.m (h.sub [1, 2, 0] rfl) ?_
    exact hJ26 _
  · refine E.m (h.iload_n 2 dX10_sample_18 rfl) ?_
    refine E.m (h.aload_n 0 dX10_sample_19 rfl) ?_
    refine E.bnd (fun u2 M3 => w M3 23 [(2, .ref (t + 19 + 1 + 5 + 4)), (0, .ref t), (1, .int x1_)] [.int u2, .int x1_]) (fun u2 M3 hf k => h.callV (As := []) (rest := [.int x1_]) (c_X4_samplesKept hW (hW.clo 15 (hW.clo 33 (hW.clo 25 (hW.clo 35 h0 rfl) rfl) rfl) rfl) hf) lm_X4_samplesKept lv_m_X4_samplesKept ll_RX10_158 (hW.clo 15 (hW.clo 33 (hW.clo 25 (hW.clo 35 h0 rfl) rfl) rfl) rfl) lc_4 rfl rfl (Nat.le_of_ble_eq_true rfl) (by decide) dX10_sample_20 rfl k) (fun u2 M3 => ?_)
    refine E.br (fun k1 k2 => h.icmp_lt (tgt := 37) dX10_sample_23 (by decide) k1 k2) ?_ ?_
    · refine E.m (h.aload_n 0 dX10_sample_37 rfl) ?_
      refine E.m (h.iload_n 2 dX10_sample_38 rfl) ?_
      refine E.bnd (fun u4 M5 => w M5 42 [(2, .ref (t + 19 + 1 + 5 + 4)), (0, .ref t), (1, .int x1_)] [.int u4]) (fun u4 M5 hf k => h.callV (As := [.int x1_]) (rest := []) (c_X4_sampleAt hW (hW.clo 15 (hW.clo 33 (hW.clo 25 (hW.clo 35 h0 rfl) rfl) rfl) rfl) hf) lm_X4_sampleAt lv_m_X4_sampleAt ll_RX10_262 (hW.clo 15 (hW.clo 33 (hW.clo 25 (hW.clo 35 h0 rfl) rfl) rfl) rfl) lc_4 rfl rfl (Nat.le_of_ble_eq_true rfl) (by decide) dX10_sample_39 rfl k) (fun u4 M5 => ?_)
      exact E.some (ret_x hr rfl dX10_sample_42)
    · refine E.m (h.sub [1, 2, 0] rfl) ?_
      exact hJ26 _
def f_X10_wander (t : Nat) (x1_ : Int32) (M : Mem) : Option ((Int32 ⊕ Nat) × Mem) :=
  jn0 (fun _ => some (.inr 1, M)) (fun J12 => if x1_ < (2 : Int32) then (J12 ()) else (if x1_ ≤ (128 : Int32) then (bd (f_X4_widest (t + 19 + 1 + 5 + 4) x1_ M) (fun u1 M2 => some (.inl u1, M2))) else (J12 ())))
set_option maxRecDepth 20000 in
theorem c_X10_wander {G : Ctx} (hfl : (gl G).stackTraces = false) (hW : WFG G) {t : Nat} {x1_ : Int32} {M M' : Mem} {r : Int32 ⊕ Nat} (h0 : hs G t (0, 10)) (hf : f_X10_wander t x1_ M = some (r, M')) : CtX G yX10_wander cX10_wander 2 (some .int) 10 200 [.ref t, .int x1_] M r M' := by
  refine ct_x hfl hW (by decide +kernel) (Nat.le_of_ble_eq_true rfl) (by decide) (fun w h hr ht => ?_)
  have h : Rb G cX10_wander RX10 2 10 200 w := h
  refine (?_ : E (fun q => q = (r, M')) (f_X10_wander t x1_ M) (w M 0 [(0, .ref t), (1, .int x1_)] [])) _ hf rfl
  unfold f_X10_wander
  refine E.m (h.iload_n 1 dX10_wander_0 rfl) ?_
  refine E.m (h.iconst (v := (2 : Int32)) dX10_wander_1 (by decide)) ?_
  refine E.join0 (fun _ => w M 12 [(0, .ref t), (1, .int x1_)] []) (fun _ => ?_) (fun J12 hJ12 => ?_)
  · exact E.some (ret_t ht th_52_56 (is := 265) 25 rfl ⟨dX10_wander_12, dX10_wander_15, Or.inr ⟨dX10_wander_16, dX10_wander_19, dX10_wander_22⟩⟩)
  refine E.br (fun k1 k2 => h.icmp_lt (tgt := 12) dX10_wander_2 (by decide) k1 k2) ?_ ?_
  · exact hJ12 ()
  · refine E.m (h.iload_n 1 dX10_wander_5 rfl) ?_
    refine E.m (h.sipush (v := (128 : Int32)) dX10_wander_6 (by decide)) ?_
    refine E.br (fun k1 k2 => h.icmp_le (tgt := 23) dX10_wander_9 (by decide) k1 k2) ?_ ?_
    · refine E.m (h.aload_n 0 dX10_wander_23 rfl) ?_
      refine E.m (h.get h0 lf_RX10_26 dX10_wander_24 fv_10_2) ?_
      refine E.m (h.get (hW.clo 35 h0 rfl) lf_RX10_77 dX10_wander_27 fv_8_0) ?_
      refine E.m (h.get (hW.clo 25 (hW.clo 35 h0 rfl) rfl) lf_RX10_104 dX10_wander_30 fv_9_2) ?_
      refine E.m (h.get (hW.clo 33 (hW.clo 25 (hW.clo 35 h0 rfl) rfl) rfl) lf_RX10_122 dX10_wander_33 fv_5_11) ?_
      refine E.m (h.iload_n 1 dX10_wander_36 rfl) ?_
      refine E.bnd (fun u1 M2 => w M2 40 [(0, .ref t), (1, .int x1_)] [.int u1]) (fun u1 M2 hf k => h.callV (As := [.int x1_]) (rest := []) (c_X4_widest hW (hW.clo 15 (hW.clo 33 (hW.clo 25 (hW.clo 35 h0 rfl) rfl) rfl) rfl) hf) lm_X4_widest lv_m_X4_widest ll_RX10_267 (hW.clo 15 (hW.clo 33 (hW.clo 25 (hW.clo 35 h0 rfl) rfl) rfl) rfl) lc_4 rfl rfl (Nat.le_of_ble_eq_true rfl) (by decide) dX10_wander_37 rfl k) (fun u1 M2 => ?_)
      exact E.some (ret_x hr rfl dX10_wander_40)
    · exact hJ12 ()
def f_X10_turn (t : Nat) (x1_ : Int32) (x2_ : Int32) (M : Mem) : Option ((Int32 ⊕ Nat) × Mem) :=
  jn0 (fun _ => some (.inr 0, M)) (fun J9 => if x1_ < 0 then (J9 ()) else (if x1_ ≤ (2 : Int32) then (bd (f_X10_turnable t x1_ M) (fun u1 M2 => bd (f_X10_canTurn x1_ x2_ M2) (fun u3 M4 => jn0 (fun _ => bd (f_X8_refuse (t + 19) (1 : Int32) M4) (fun _ M6 => some (.inl (10000 : Int32), M6))) (fun J39 => if u3 = 0 then (J39 ()) else (if x2_ = u1 then (J39 ()) else (gdp (M4.2.2 0 = t + 3 ∨ M4.2.2 0 = t + 11) (jn1 (fun z8 => bd (f_X8_act (t + 19) (M4.2.2 0) z8 x2_ M4) (fun _ M10 => some (.inl u1, M10))) (fun J77 => if x1_ = 0 then (J77 (3 : Int32)) else (if x1_ = (1 : Int32) then (J77 (4 : Int32)) else (J77 (5 : Int32))))))))))) else (J9 ())))
set_option maxRecDepth 20000 in
theorem c_X10_turn {G : Ctx} (hfl : (gl G).stackTraces = false) (hW : WFG G) {t : Nat} {x1_ : Int32} {x2_ : Int32} {M M' : Mem} {r : Int32 ⊕ Nat} (h0 : hs G t (0, 10)) (hf : f_X10_turn t x1_ x2_ M = some (r, M')) : CtX G yX10_turn cX10_turn 4 (some .int) 10 200 [.ref t, .int x1_, .int x2_] M r M' := by
  refine ct_x hfl hW (by decide +kernel) (Nat.le_of_ble_eq_true rfl) (by decide) (fun w h hr ht => ?_)
  have h : Rb G cX10_turn RX10 4 10 200 w := h
  refine (?_ : E (fun q => q = (r, M')) (f_X10_turn t x1_ x2_ M) (w M 0 [(0, .ref t), (1, .int x1_), (2, .int x2_)] [])) _ hf rfl
  unfold f_X10_turn
  refine E.m (h.iload_n 1 dX10_turn_0 rfl) ?_
  refine E.join0 (fun _ => w M 9 [(0, .ref t), (1, .int x1_), (2, .int x2_)] []) (fun _ => ?_) (fun J9 hJ9 => ?_)
  · exact E.some (ret_t ht th_176_180 (is := 274) 26 rfl ⟨dX10_turn_9, dX10_turn_12, Or.inr ⟨dX10_turn_13, dX10_turn_16, dX10_turn_19⟩⟩)
  refine E.br (fun k1 k2 => h.if_lt (tgt := 9) dX10_turn_1 (by decide) k1 k2) ?_ ?_
  · exact hJ9 ()
  · refine E.m (h.iload_n 1 dX10_turn_4 rfl) ?_
    refine E.m (h.iconst (v := (2 : Int32)) dX10_turn_5 (by decide)) ?_
    refine E.br (fun k1 k2 => h.icmp_le (tgt := 20) dX10_turn_6 (by decide) k1 k2) ?_ ?_
    · refine E.m (h.aload_n 0 dX10_turn_20 rfl) ?_
      refine E.m (h.iload_n 1 dX10_turn_21 rfl) ?_
      refine E.bnd (fun u1 M2 => w M2 25 [(0, .ref t), (1, .int x1_), (2, .int x2_)] [.int u1]) (fun u1 M2 hf k => h.callV (As := [.int x1_]) (rest := []) (c_X10_turnable hW h0 hf) lm_X10_turnable lv_m_X10_turnable ll_RX10_276 h0 lc_10 rfl rfl (Nat.le_of_ble_eq_true rfl) (by decide) dX10_turn_22 rfl k) (fun u1 M2 => ?_)
      refine E.m (h.istore_n dX10_turn_25 (by decide) rfl) ?_
      refine E.m (h.iload_n 2 dX10_turn_26 rfl) ?_
      refine E.m (h.iload_n 3 dX10_turn_27 rfl) ?_
      refine E.bnd (fun u3 M4 => w M4 31 [(3, .int u1), (0, .ref t), (1, .int x1_), (2, .int x2_)] [.int u3]) (fun u3 M4 hf k => h.callS (As := [.int x1_, .int x2_]) (rest := []) (c_X10_canTurn hW hf) lm_X10_canTurn ls_m_X10_canTurn ll_RX10_279 rfl rfl (Nat.le_of_ble_eq_true rfl) (by decide) dX10_turn_28 rfl k) (fun u3 M4 => ?_)
      refine E.join0 (fun _ => w M4 39 [(0, .ref t), (1, .int x1_), (2, .int x2_), (3, .int u1)] []) (fun _ => ?_) (fun J39 hJ39 => ?_)
      · refine E.m (h.aload_n 0 dX10_turn_39 rfl) ?_
        refine E.m (h.get h0 lf_RX10_26 dX10_turn_40 fv_10_2) ?_
        refine E.m (h.iconst (v := (1 : Int32)) dX10_turn_43 (by decide)) ?_
        refine E.bnd (fun _ M6 => w M6 47 [(0, .ref t), (1, .int x1_), (2, .int x2_), (3, .int u1)] []) (fun _ M6 hf k => h.callV (As := [.int (1 : Int32)]) (rest := []) (c_X8_refuse hW (hW.clo 35 h0 rfl) hf) lm_X8_refuse lv_m_X8_refuse ll_RX10_63 (hW.clo 35 h0 rfl) lc_8 rfl rfl (Nat.le_of_ble_eq_true rfl) (by decide) dX10_turn_44 rfl k) (fun _ M6 => ?_)
        refine E.m (h.sipush (v := (10000 : Int32)) dX10_turn_47 (by decide)) ?_
        exact E.some (ret_x hr rfl dX10_turn_50)
      refine E.br (fun k1 k2 => h.if_eq (tgt := 39) dX10_turn_31 (by decide) k1 k2) ?_ ?_
      · refine E.m (h.sub [1, 2, 3, 0] rfl) ?_
        exact hJ39 ()
      · refine E.m (h.iload_n 3 dX10_turn_34 rfl) ?_
        refine E.m (h.iload_n 0 dX10_turn_35 rfl) ?_
        refine E.br (fun k1 k2 => h.icmp_ne (tgt := 51) dX10_turn_36 (by decide) k2 k1) ?_ ?_
        · refine E.m (h.sub [1, 2, 3, 0] rfl) ?_
          exact hJ39 ()
        · refine E.m (h.aload_n 1 dX10_turn_51 rfl) ?_
          refine E.m (h.get h0 lf_RX10_26 dX10_turn_52 fv_10_2) ?_
          refine E.m (h.aload_n 1 dX10_turn_55 rfl) ?_
          refine E.gd (fun _ k => h.get h0 lf_RX10_19 dX10_turn_56 fv_10_1 k) (fun hd7 => ?_)
          refine E.m (h.iload_n 2 dX10_turn_59 rfl) ?_
          refine E.join1 (fun z8 => w M4 77 [(0, .ref t), (1, .int x1_), (2, .int x2_), (3, .int u1)] [.int z8, .ref (M4.2.2 0), .ref (t + 19)]) (fun z8 => ?_) (fun J77 hJ77 => ?_)
          · refine E.m (h.iload_n 2 dX10_turn_77 rfl) ?_
            refine E.bnd (fun _ M10 => w M10 81 [(0, .ref t), (1, .int x1_), (2, .int x2_), (3, .int u1)] []) (fun _ M10 hf k => h.callV (As := [.ref (M4.2.2 0), .int z8, .int x2_]) (rest := []) (c_X8_act hW (hW.clo 35 h0 rfl) (hs2 hd7 (hW.clo 38 h0 rfl) (hW.clo 39 h0 rfl)) hf) lm_X8_act lv_m_X8_act ll_RX10_270 (hW.clo 35 h0 rfl) lc_8 rfl rfl (Nat.le_of_ble_eq_true rfl) (by decide) dX10_turn_78 rfl k) (fun _ M10 => ?_)
            refine E.m (h.iload_n 3 dX10_turn_81 rfl) ?_
            exact E.some (ret_x hr rfl dX10_turn_82)
          refine E.br (fun k1 k2 => h.if_ne (tgt := 67) dX10_turn_60 (by decide) k2 k1) ?_ ?_
          · refine E.m (h.iconst (v := (3 : Int32)) dX10_turn_63 (by decide)) ?_
            refine E.m (h.goto (tgt := 77) dX10_turn_64 (by decide)) ?_
            refine E.m (h.sub [1, 2, 3, 0] rfl) ?_
            exact hJ77 _
          · refine E.m (h.iload_n 2 dX10_turn_67 rfl) ?_
            refine E.m (h.iconst (v := (1 : Int32)) dX10_turn_68 (by decide)) ?_
            refine E.br (fun k1 k2 => h.icmp_ne (tgt := 76) dX10_turn_69 (by decide) k2 k1) ?_ ?_
            · refine E.m (h.iconst (v := (4 : Int32)) dX10_turn_72 (by decide)) ?_
              refine E.m (h.goto (tgt := 77) dX10_turn_73 (by decide)) ?_
              refine E.m (h.sub [1, 2, 3, 0] rfl) ?_
              exact hJ77 _
            · refine E.m (h.iconst (v := (5 : Int32)) dX10_turn_76 (by decide)) ?_
              refine E.m (h.sub [1, 2, 3, 0] rfl) ?_
              exact hJ77 _
    · exact hJ9 ()
def f_X10_then (t : Nat) (x1_ : Int32) (x2_ : Int32) (M : Mem) : Option ((Int32 ⊕ Nat) × Mem) :=
  jn0 (fun _ => some (.inr 0, M)) (fun J9 => if x2_ < 0 then (J9 ()) else (if x2_ ≤ (5 : Int32) then (jn0 (fun _ => some (.inr 1, M)) (fun J31 => if x1_ < 0 then (J31 ()) else (if x1_ ≤ (400 : Int32) then (gdp (M.2.2 0 = t + 3 ∨ M.2.2 0 = t + 11) (bd (f_X2_behind (t + 79) (t + 19 + 1) (M.2.2 0) x1_ x2_ M) (fun u2 M3 => some (.inl u2, M3)))) else (J31 ())))) else (J9 ())))
set_option maxRecDepth 20000 in
theorem c_X10_then {G : Ctx} (hfl : (gl G).stackTraces = false) (hW : WFG G) {t : Nat} {x1_ : Int32} {x2_ : Int32} {M M' : Mem} {r : Int32 ⊕ Nat} (h0 : hs G t (0, 10)) (hf : f_X10_then t x1_ x2_ M = some (r, M')) : CtX G yX10_then cX10_then 3 (some .int) 10 200 [.ref t, .int x1_, .int x2_] M r M' := by
  refine ct_x hfl hW (by decide +kernel) (Nat.le_of_ble_eq_true rfl) (by decide) (fun w h hr ht => ?_)
  have h : Rb G cX10_then RX10 3 10 200 w := h
  refine (?_ : E (fun q => q = (r, M')) (f_X10_then t x1_ x2_ M) (w M 0 [(0, .ref t), (1, .int x1_), (2, .int x2_)] [])) _ hf rfl
  unfold f_X10_then
  refine E.m (h.iload_n 2 dX10_then_0 rfl) ?_
  refine E.join0 (fun _ => w M 9 [(0, .ref t), (1, .int x1_), (2, .int x2_)] []) (fun _ => ?_) (fun J9 hJ9 => ?_)
  · exact E.some (ret_t ht th_176_180 (is := 287) 27 rfl ⟨dX10_then_9, dX10_then_12, Or.inr ⟨dX10_then_13, dX10_then_16, dX10_then_19⟩⟩)
  refine E.br (fun k1 k2 => h.if_lt (tgt := 9) dX10_then_1 (by decide) k1 k2) ?_ ?_
  · exact hJ9 ()
  · refine E.m (h.iload_n 2 dX10_then_4 rfl) ?_
    refine E.m (h.iconst (v := (5 : Int32)) dX10_then_5 (by decide)) ?_
    refine E.br (fun k1 k2 => h.icmp_le (tgt := 20) dX10_then_6 (by decide) k1 k2) ?_ ?_
    · refine E.m (h.iload_n 1 dX10_then_20 rfl) ?_
      refine E.join0 (fun _ => w M 31 [(0, .ref t), (1, .int x1_), (2, .int x2_)] []) (fun _ => ?_) (fun J31 hJ31 => ?_)
      · exact E.some (ret_t ht th_52_56 (is := 289) 28 rfl ⟨dX10_then_31, dX10_then_34, Or.inr ⟨dX10_then_35, dX10_then_38, dX10_then_41⟩⟩)
      refine E.br (fun k1 k2 => h.if_lt (tgt := 31) dX10_then_21 (by decide) k1 k2) ?_ ?_
      · exact hJ31 ()
      · refine E.m (h.iload_n 1 dX10_then_24 rfl) ?_
        refine E.m (h.sipush (v := (400 : Int32)) dX10_then_25 (by decide)) ?_
        refine E.br (fun k1 k2 => h.icmp_le (tgt := 42) dX10_then_28 (by decide) k1 k2) ?_ ?_
        · refine E.m (h.aload_n 0 dX10_then_42 rfl) ?_
          refine E.m (h.get h0 lf_RX10_36 dX10_then_43 fv_10_5) ?_
          refine E.m (h.aload_n 0 dX10_then_46 rfl) ?_
          refine E.m (h.get h0 lf_RX10_26 dX10_then_47 fv_10_2) ?_
          refine E.m (h.get (hW.clo 35 h0 rfl) lf_RX10_77 dX10_then_50 fv_8_0) ?_
          refine E.m (h.aload_n 0 dX10_then_53 rfl) ?_
          refine E.gd (fun _ k => h.get h0 lf_RX10_19 dX10_then_54 fv_10_1 k) (fun hd1 => ?_)
          refine E.m (h.iload_n 1 dX10_then_57 rfl) ?_
          refine E.m (h.iload_n 2 dX10_then_58 rfl) ?_
          refine E.bnd (fun u2 M3 => w M3 62 [(0, .ref t), (1, .int x1_), (2, .int x2_)] [.int u2]) (fun u2 M3 hf k => h.callV (As := [.ref (t + 19 + 1), .ref (M.2.2 0), .int x1_, .int x2_]) (rest := []) (c_X2_behind hW (hW.clo 37 h0 rfl) (hW.clo 25 (hW.clo 35 h0 rfl) rfl) (hs2 hd1 (hW.clo 38 h0 rfl) (hW.clo 39 h0 rfl)) hf) lm_X2_behind lv_m_X2_behind ll_RX10_291 (hW.clo 37 h0 rfl) lc_2 rfl rfl (Nat.le_of_ble_eq_true rfl) (by decide) dX10_then_59 rfl k) (fun u2 M3 => ?_)
          exact E.some (ret_x hr rfl dX10_then_62)
        · exact hJ31 ()
    · exact hJ9 ()
def f_X10_when (t : Nat) (x1_ : Int32) (M : Mem) : Option ((Int32 ⊕ Nat) × Mem) :=
  jn0 (fun _ => some (.inr 0, M)) (fun J9 => if x1_ < 0 then (J9 ()) else (if x1_ ≤ (3 : Int32) then (jn2 (fun z1 M2 => some (.inl z1, M2)) (fun J64 => if x1_ = 0 then (gdp (M.2.2 0 = t + 3 ∨ M.2.2 0 = t + 11) (bd (f_X2_firstPlaying (t + 79) (t + 19 + 1) (M.2.2 0) M) (fun u7 M8 => J64 u7 M8))) else (gdp (M.2.2 0 = t + 3 ∨ M.2.2 0 = t + 11) (bd (f_X2_firstOf (t + 79) (t + 19 + 1) (M.2.2 0) x1_ M) (fun u4 M5 => J64 u4 M5))))) else (J9 ())))
set_option maxRecDepth 20000 in
theorem c_X10_when {G : Ctx} (hfl : (gl G).stackTraces = false) (hW : WFG G) {t : Nat} {x1_ : Int32} {M M' : Mem} {r : Int32 ⊕ Nat} (h0 : hs G t (0, 10)) (hf : f_X10_when t x1_ M = some (r, M')) : CtX G yX10_when cX10_when 2 (some .int) 10 200 [.ref t, .int x1_] M r M' := by
  refine ct_x hfl hW (by decide +kernel) (Nat.le_of_ble_eq_true rfl) (by decide) (fun w h hr ht => ?_)
  have h : Rb G cX10_when RX10 2 10 200 w := h
  refine (?_ : E (fun q => q = (r, M')) (f_X10_when t x1_ M) (w M 0 [(0, .ref t), (1, .int x1_)] [])) _ hf rfl
  unfold f_X10_when
  refine E.m (h.iload_n 1 dX10_when_0 rfl) ?_
  refine E.join0 (fun _ => w M 9 [(0, .ref t), (1, .int x1_)] []) (fun _ => ?_) (fun J9 hJ9 => ?_)
  · exact E.some (ret_t ht th_176_180 (is := 287) 27 rfl ⟨dX10_when_9, dX10_when_12, Or.inr ⟨dX10_when_13, dX10_when_16, dX10_when_19⟩⟩)
  refine E.br (fun k1 k2 => h.if_lt (tgt := 9) dX10_when_1 (by decide) k1 k2) ?_ ?_
  · exact hJ9 ()
  · refine E.m (h.iload_n 1 dX10_when_4 rfl) ?_
    refine E.m (h.iconst (v := (3 : Int32)) dX10_when_5 (by decide)) ?_
    refine E.br (fun k1 k2 => h.icmp_le (tgt := 20) dX10_when_6 (by decide) k1 k2) ?_ ?_
    · refine E.m (h.iload_n 1 dX10_when_20 rfl) ?_
      refine E.join2 (fun z1 M2 => w M2 64 [(0, .ref t), (1, .int x1_)] [.int z1]) (fun z1 M2 => ?_) (fun J64 hJ64 => ?_)
      · exact E.some (ret_x hr rfl dX10_when_64)
      refine E.br (fun k1 k2 => h.if_ne (tgt := 45) dX10_when_21 (by decide) k2 k1) ?_ ?_
      · refine E.m (h.aload_n 0 dX10_when_24 rfl) ?_
        refine E.m (h.get h0 lf_RX10_36 dX10_when_25 fv_10_5) ?_
        refine E.m (h.aload_n 0 dX10_when_28 rfl) ?_
        refine E.m (h.get h0 lf_RX10_26 dX10_when_29 fv_10_2) ?_
        refine E.m (h.get (hW.clo 35 h0 rfl) lf_RX10_77 dX10_when_32 fv_8_0) ?_
        refine E.m (h.aload_n 0 dX10_when_35 rfl) ?_
        refine E.gd (fun _ k => h.get h0 lf_RX10_19 dX10_when_36 fv_10_1 k) (fun hd6 => ?_)
        refine E.bnd (fun u7 M8 => w M8 42 [(0, .ref t), (1, .int x1_)] [.int u7]) (fun u7 M8 hf k => h.callV (As := [.ref (t + 19 + 1), .ref (M.2.2 0)]) (rest := []) (c_X2_firstPlaying hW (hW.clo 37 h0 rfl) (hW.clo 25 (hW.clo 35 h0 rfl) rfl) (hs2 hd6 (hW.clo 38 h0 rfl) (hW.clo 39 h0 rfl)) hf) lm_X2_firstPlaying lv_m_X2_firstPlaying ll_RX10_295 (hW.clo 37 h0 rfl) lc_2 rfl rfl (Nat.le_of_ble_eq_true rfl) (by decide) dX10_when_39 rfl k) (fun u7 M8 => ?_)
        refine E.m (h.goto (tgt := 64) dX10_when_42 (by decide)) ?_
        exact hJ64 _ _
      · refine E.m (h.aload_n 0 dX10_when_45 rfl) ?_
        refine E.m (h.get h0 lf_RX10_36 dX10_when_46 fv_10_5) ?_
        refine E.m (h.aload_n 0 dX10_when_49 rfl) ?_
        refine E.m (h.get h0 lf_RX10_26 dX10_when_50 fv_10_2) ?_
        refine E.m (h.get (hW.clo 35 h0 rfl) lf_RX10_77 dX10_when_53 fv_8_0) ?_
        refine E.m (h.aload_n 0 dX10_when_56 rfl) ?_
        refine E.gd (fun _ k => h.get h0 lf_RX10_19 dX10_when_57 fv_10_1 k) (fun hd3 => ?_)
        refine E.m (h.iload_n 1 dX10_when_60 rfl) ?_
        refine E.bnd (fun u4 M5 => w M5 64 [(0, .ref t), (1, .int x1_)] [.int u4]) (fun u4 M5 hf k => h.callV (As := [.ref (t + 19 + 1), .ref (M.2.2 0), .int x1_]) (rest := []) (c_X2_firstOf hW (hW.clo 37 h0 rfl) (hW.clo 25 (hW.clo 35 h0 rfl) rfl) (hs2 hd3 (hW.clo 38 h0 rfl) (hW.clo 39 h0 rfl)) hf) lm_X2_firstOf lv_m_X2_firstOf ll_RX10_299 (hW.clo 37 h0 rfl) lc_2 rfl rfl (Nat.le_of_ble_eq_true rfl) (by decide) dX10_when_61 rfl k) (fun u4 M5 => ?_)
        exact hJ64 _ _
    · exact hJ9 ()
def f_X10_toAim (t : Nat) (x1_ : Int32) (x2_ : Int32) (M : Mem) : Option ((Int32 ⊕ Nat) × Mem) :=
  jn0 (fun _ => some (.inr 0, M)) (fun J9 => if x2_ < 0 then (J9 ()) else (if x2_ ≤ (1 : Int32) then (jn0 (fun _ => some (.inr 1, M)) (fun J32 => if x1_ < (1 : Int32) then (J32 ()) else (if x1_ ≤ (400 : Int32) then (gdp (M.2.2 0 = t + 3 ∨ M.2.2 0 = t + 11) (bd (f_X2_findTarget (t + 79) (t + 19 + 1) (M.2.2 0) x1_ M) (fun _ M3 => jn1 (fun z4 => some (.inl z4, M3)) (fun J83 => if x2_ = 0 then (J83 (M3.1 (t + 79) 1)) else (J83 (M3.1 (t + 79) 2)))))) else (J32 ())))) else (J9 ())))
set_option maxRecDepth 20000 in
theorem c_X10_toAim {G : Ctx} (hfl : (gl G).stackTraces = false) (hW : WFG G) {t : Nat} {x1_ : Int32} {x2_ : Int32} {M M' : Mem} {r : Int32 ⊕ Nat} (h0 : hs G t (0, 10)) (hf : f_X10_toAim t x1_ x2_ M = some (r, M')) : CtX G yX10_toAim cX10_toAim 3 (some .int) 10 200 [.ref t, .int x1_, .int x2_] M r M' := by
  refine ct_x hfl hW (by decide +kernel) (Nat.le_of_ble_eq_true rfl) (by decide) (fun w h hr ht => ?_)
  have h : Rb G cX10_toAim RX10 3 10 200 w := h
  refine (?_ : E (fun q => q = (r, M')) (f_X10_toAim t x1_ x2_ M) (w M 0 [(0, .ref t), (1, .int x1_), (2, .int x2_)] [])) _ hf rfl
  unfold f_X10_toAim
  refine E.m (h.iload_n 2 dX10_toAim_0 rfl) ?_
  refine E.join0 (fun _ => w M 9 [(0, .ref t), (1, .int x1_), (2, .int x2_)] []) (fun _ => ?_) (fun J9 hJ9 => ?_)
  · exact E.some (ret_t ht th_176_180 (is := 287) 27 rfl ⟨dX10_toAim_9, dX10_toAim_12, Or.inr ⟨dX10_toAim_13, dX10_toAim_16, dX10_toAim_19⟩⟩)
  refine E.br (fun k1 k2 => h.if_lt (tgt := 9) dX10_toAim_1 (by decide) k1 k2) ?_ ?_
  · exact hJ9 ()
  · refine E.m (h.iload_n 2 dX10_toAim_4 rfl) ?_
    refine E.m (h.iconst (v := (1 : Int32)) dX10_toAim_5 (by decide)) ?_
    refine E.br (fun k1 k2 => h.icmp_le (tgt := 20) dX10_toAim_6 (by decide) k1 k2) ?_ ?_
    · refine E.m (h.iload_n 1 dX10_toAim_20 rfl) ?_
      refine E.m (h.iconst (v := (1 : Int32)) dX10_toAim_21 (by decide)) ?_
      refine E.join0 (fun _ => w M 32 [(0, .ref t), (1, .int x1_), (2, .int x2_)] []) (fun _ => ?_) (fun J32 hJ32 => ?_)
      · exact E.some (ret_t ht th_52_56 (is := 306) 29 rfl ⟨dX10_toAim_32, dX10_toAim_35, Or.inr ⟨dX10_toAim_36, dX10_toAim_39, dX10_toAim_42⟩⟩)
      refine E.br (fun k1 k2 => h.icmp_lt (tgt := 32) dX10_toAim_22 (by decide) k1 k2) ?_ ?_
      · exact hJ32 ()
      · refine E.m (h.iload_n 1 dX10_toAim_25 rfl) ?_
        refine E.m (h.sipush (v := (400 : Int32)) dX10_toAim_26 (by decide)) ?_
        refine E.br (fun k1 k2 => h.icmp_le (tgt := 43) dX10_toAim_29 (by decide) k1 k2) ?_ ?_
        · refine E.m (h.aload_n 0 dX10_toAim_43 rfl) ?_
          refine E.m (h.get h0 lf_RX10_36 dX10_toAim_44 fv_10_5) ?_
          refine E.m (h.aload_n 0 dX10_toAim_47 rfl) ?_
          refine E.m (h.get h0 lf_RX10_26 dX10_toAim_48 fv_10_2) ?_
          refine E.m (h.get (hW.clo 35 h0 rfl) lf_RX10_77 dX10_toAim_51 fv_8_0) ?_
          refine E.m (h.aload_n 0 dX10_toAim_54 rfl) ?_
          refine E.gd (fun _ k => h.get h0 lf_RX10_19 dX10_toAim_55 fv_10_1 k) (fun hd1 => ?_)
          refine E.m (h.iload_n 1 dX10_toAim_58 rfl) ?_
          refine E.bnd (fun _ M3 => w M3 62 [(0, .ref t), (1, .int x1_), (2, .int x2_)] []) (fun _ M3 hf k => h.callV (As := [.ref (t + 19 + 1), .ref (M.2.2 0), .int x1_]) (rest := []) (c_X2_findTarget hW (hW.clo 37 h0 rfl) (hW.clo 25 (hW.clo 35 h0 rfl) rfl) (hs2 hd1 (hW.clo 38 h0 rfl) (hW.clo 39 h0 rfl)) hf) lm_X2_findTarget lv_m_X2_findTarget ll_RX10_308 (hW.clo 37 h0 rfl) lc_2 rfl rfl (Nat.le_of_ble_eq_true rfl) (by decide) dX10_toAim_59 rfl k) (fun _ M3 => ?_)
          refine E.m (h.iload_n 2 dX10_toAim_62 rfl) ?_
          refine E.join1 (fun z4 => w M3 83 [(0, .ref t), (1, .int x1_), (2, .int x2_)] [.int z4]) (fun z4 => ?_) (fun J83 hJ83 => ?_)
          · exact E.some (ret_x hr rfl dX10_toAim_83)
          refine E.br (fun k1 k2 => h.if_ne (tgt := 76) dX10_toAim_63 (by decide) k2 k1) ?_ ?_
          · refine E.m (h.aload_n 0 dX10_toAim_66 rfl) ?_
            refine E.m (h.get h0 lf_RX10_36 dX10_toAim_67 fv_10_5) ?_
            refine E.m (h.get (hW.clo 37 h0 rfl) lf_RX10_312 dX10_toAim_70 fv_2_1) ?_
            refine E.m (h.goto (tgt := 83) dX10_toAim_73 (by decide)) ?_
            exact hJ83 _
          · refine E.m (h.aload_n 0 dX10_toAim_76 rfl) ?_
            refine E.m (h.get h0 lf_RX10_36 dX10_toAim_77 fv_10_5) ?_
            refine E.m (h.get (hW.clo 37 h0 rfl) lf_RX10_315 dX10_toAim_80 fv_2_2) ?_
            exact hJ83 _
        · exact hJ32 ()
    · exact hJ9 ()
def f_X10_toGain (t : Nat) (x1_ : Int32) (x2_ : Int32) (M : Mem) : Option ((Int32 ⊕ Nat) × Mem) :=
  jn0 (fun _ => some (.inr 0, M)) (fun J9 => if x2_ < 0 then (J9 ()) else (if x2_ ≤ (1 : Int32) then (jn0 (fun _ => some (.inr 1, M)) (fun J32 => if x1_ < (1 : Int32) then (J32 ()) else (if x1_ ≤ (400 : Int32) then (gdp (M.2.2 0 = t + 3 ∨ M.2.2 0 = t + 11) (bd (f_X2_findGains (t + 79) (t + 19 + 1) (M.2.2 0) x1_ M) (fun _ M3 => jn1 (fun z4 => some (.inl z4, M3)) (fun J83 => if x2_ = 0 then (J83 (M3.1 (t + 79) 1)) else (J83 (M3.1 (t + 79) 2)))))) else (J32 ())))) else (J9 ())))
set_option maxRecDepth 20000 in
theorem c_X10_toGain {G : Ctx} (hfl : (gl G).stackTraces = false) (hW : WFG G) {t : Nat} {x1_ : Int32} {x2_ : Int32} {M M' : Mem} {r : Int32 ⊕ Nat} (h0 : hs G t (0, 10)) (hf : f_X10_toGain t x1_ x2_ M = some (r, M')) : CtX G yX10_toGain cX10_toGain 3 (some .int) 10 200 [.ref t, .int x1_, .int x2_] M r M' := by
  refine ct_x hfl hW (by decide +kernel) (Nat.le_of_ble_eq_true rfl) (by decide) (fun w h hr ht => ?_)
  have h : Rb G cX10_toGain RX10 3 10 200 w := h
  refine (?_ : E (fun q => q = (r, M')) (f_X10_toGain t x1_ x2_ M) (w M 0 [(0, .ref t), (1, .int x1_), (2, .int x2_)] [])) _ hf rfl
  unfold f_X10_toGain
  refine E.m (h.iload_n 2 dX10_toGain_0 rfl) ?_
  refine E.join0 (fun _ => w M 9 [(0, .ref t), (1, .int x1_), (2, .int x2_)] []) (fun _ => ?_) (fun J9 hJ9 => ?_)
  · exact E.some (ret_t ht th_176_180 (is := 287) 27 rfl ⟨dX10_toGain_9, dX10_toGain_12, Or.inr ⟨dX10_toGain_13, dX10_toGain_16, dX10_toGain_19⟩⟩)
  refine E.br (fun k1 k2 => h.if_lt (tgt := 9) dX10_toGain_1 (by decide) k1 k2) ?_ ?_
  · exact hJ9 ()
  · refine E.m (h.iload_n 2 dX10_toGain_4 rfl) ?_
    refine E.m (h.iconst (v := (1 : Int32)) dX10_toGain_5 (by decide)) ?_
    refine E.br (fun k1 k2 => h.icmp_le (tgt := 20) dX10_toGain_6 (by decide) k1 k2) ?_ ?_
    · refine E.m (h.iload_n 1 dX10_toGain_20 rfl) ?_
      refine E.m (h.iconst (v := (1 : Int32)) dX10_toGain_21 (by decide)) ?_
      refine E.join0 (fun _ => w M 32 [(0, .ref t), (1, .int x1_), (2, .int x2_)] []) (fun _ => ?_) (fun J32 hJ32 => ?_)
      · exact E.some (ret_t ht th_52_56 (is := 306) 29 rfl ⟨dX10_toGain_32, dX10_toGain_35, Or.inr ⟨dX10_toGain_36, dX10_toGain_39, dX10_toGain_42⟩⟩)
      refine E.br (fun k1 k2 => h.icmp_lt (tgt := 32) dX10_toGain_22 (by decide) k1 k2) ?_ ?_
      · exact hJ32 ()
      · refine E.m (h.iload_n 1 dX10_toGain_25 rfl) ?_
        refine E.m (h.sipush (v := (400 : Int32)) dX10_toGain_26 (by decide)) ?_
        refine E.br (fun k1 k2 => h.icmp_le (tgt := 43) dX10_toGain_29 (by decide) k1 k2) ?_ ?_
        · refine E.m (h.aload_n 0 dX10_toGain_43 rfl) ?_
          refine E.m (h.get h0 lf_RX10_36 dX10_toGain_44 fv_10_5) ?_
          refine E.m (h.aload_n 0 dX10_toGain_47 rfl) ?_
          refine E.m (h.get h0 lf_RX10_26 dX10_toGain_48 fv_10_2) ?_
          refine E.m (h.get (hW.clo 35 h0 rfl) lf_RX10_77 dX10_toGain_51 fv_8_0) ?_
          refine E.m (h.aload_n 0 dX10_toGain_54 rfl) ?_
          refine E.gd (fun _ k => h.get h0 lf_RX10_19 dX10_toGain_55 fv_10_1 k) (fun hd1 => ?_)
          refine E.m (h.iload_n 1 dX10_toGain_58 rfl) ?_
          refine E.bnd (fun _ M3 => w M3 62 [(0, .ref t), (1, .int x1_), (2, .int x2_)] []) (fun _ M3 hf k => h.callV (As := [.ref (t + 19 + 1), .ref (M.2.2 0), .int x1_]) (rest := []) (c_X2_findGains hW (hW.clo 37 h0 rfl) (hW.clo 25 (hW.clo 35 h0 rfl) rfl) (hs2 hd1 (hW.clo 38 h0 rfl) (hW.clo 39 h0 rfl)) hf) lm_X2_findGains lv_m_X2_findGains ll_RX10_318 (hW.clo 37 h0 rfl) lc_2 rfl rfl (Nat.le_of_ble_eq_true rfl) (by decide) dX10_toGain_59 rfl k) (fun _ M3 => ?_)
          refine E.m (h.iload_n 2 dX10_toGain_62 rfl) ?_
          refine E.join1 (fun z4 => w M3 83 [(0, .ref t), (1, .int x1_), (2, .int x2_)] [.int z4]) (fun z4 => ?_) (fun J83 hJ83 => ?_)
          · exact E.some (ret_x hr rfl dX10_toGain_83)
          refine E.br (fun k1 k2 => h.if_ne (tgt := 76) dX10_toGain_63 (by decide) k2 k1) ?_ ?_
          · refine E.m (h.aload_n 0 dX10_toGain_66 rfl) ?_
            refine E.m (h.get h0 lf_RX10_36 dX10_toGain_67 fv_10_5) ?_
            refine E.m (h.get (hW.clo 37 h0 rfl) lf_RX10_312 dX10_toGain_70 fv_2_1) ?_
            refine E.m (h.goto (tgt := 83) dX10_toGain_73 (by decide)) ?_
            exact hJ83 _
          · refine E.m (h.aload_n 0 dX10_toGain_76 rfl) ?_
            refine E.m (h.get h0 lf_RX10_36 dX10_toGain_77 fv_10_5) ?_
            refine E.m (h.get (hW.clo 37 h0 rfl) lf_RX10_315 dX10_toGain_80 fv_2_2) ?_
            exact hJ83 _
        · exact hJ32 ()
    · exact hJ9 ()
def f_X10_other (t : Nat) (x1_ : Int32) (M : Mem) : Option ((Int32 ⊕ Nat) × Mem) :=
  jn0 (fun _ => some (.inr 0, M)) (fun J9 => if x1_ < 0 then (J9 ()) else (if x1_ ≤ (2 : Int32) then (if x1_ = (2 : Int32) then (gdp (M.2.2 0 = t + 3 ∨ M.2.2 0 = t + 11) (bd (f_X2_agrees (t + 79) (t + 19) (M.2.2 0) (M.1 (t + 19 + 1 + 1) 0) M) (fun u6 M7 => jn1 (fun z8 => some (.inl z8, M7)) (fun J61 => if u6 = 0 then (J61 (0 : Int32)) else (J61 (1 : Int32)))))) else (gdp (M.2.2 0 = t + 3 ∨ M.2.2 0 = t + 11) (bd (f_X2_findOthers (t + 79) (t + 19) (M.2.2 0) M) (fun _ M3 => jn1 (fun z4 => some (.inl z4, M3)) (fun J98 => if x1_ = 0 then (J98 (M3.1 (t + 79) 3)) else (J98 (M3.1 (t + 79) 4))))))) else (J9 ())))
set_option maxRecDepth 20000 in
theorem c_X10_other {G : Ctx} (hfl : (gl G).stackTraces = false) (hW : WFG G) {t : Nat} {x1_ : Int32} {M M' : Mem} {r : Int32 ⊕ Nat} (h0 : hs G t (0, 10)) (hf : f_X10_other t x1_ M = some (r, M')) : CtX G yX10_other cX10_other 2 (some .int) 10 200 [.ref t, .int x1_] M r M' := by
  refine ct_x hfl hW (by decide +kernel) (Nat.le_of_ble_eq_true rfl) (by decide) (fun w h hr ht => ?_)
  have h : Rb G cX10_other RX10 2 10 200 w := h
  refine (?_ : E (fun q => q = (r, M')) (f_X10_other t x1_ M) (w M 0 [(0, .ref t), (1, .int x1_)] [])) _ hf rfl
  unfold f_X10_other
  refine E.m (h.iload_n 1 dX10_other_0 rfl) ?_
  refine E.join0 (fun _ => w M 9 [(0, .ref t), (1, .int x1_)] []) (fun _ => ?_) (fun J9 hJ9 => ?_)
  · exact E.some (ret_t ht th_176_180 (is := 287) 27 rfl ⟨dX10_other_9, dX10_other_12, Or.inr ⟨dX10_other_13, dX10_other_16, dX10_other_19⟩⟩)
  refine E.br (fun k1 k2 => h.if_lt (tgt := 9) dX10_other_1 (by decide) k1 k2) ?_ ?_
  · exact hJ9 ()
  · refine E.m (h.iload_n 1 dX10_other_4 rfl) ?_
    refine E.m (h.iconst (v := (2 : Int32)) dX10_other_5 (by decide)) ?_
    refine E.br (fun k1 k2 => h.icmp_le (tgt := 20) dX10_other_6 (by decide) k1 k2) ?_ ?_
    · refine E.m (h.iload_n 1 dX10_other_20 rfl) ?_
      refine E.m (h.iconst (v := (2 : Int32)) dX10_other_21 (by decide)) ?_
      refine E.br (fun k1 k2 => h.icmp_ne (tgt := 62) dX10_other_22 (by decide) k2 k1) ?_ ?_
      · refine E.m (h.aload_n 0 dX10_other_25 rfl) ?_
        refine E.m (h.get h0 lf_RX10_36 dX10_other_26 fv_10_5) ?_
        refine E.m (h.aload_n 0 dX10_other_29 rfl) ?_
        refine E.m (h.get h0 lf_RX10_26 dX10_other_30 fv_10_2) ?_
        refine E.m (h.aload_n 0 dX10_other_33 rfl) ?_
        refine E.gd (fun _ k => h.get h0 lf_RX10_19 dX10_other_34 fv_10_1 k) (fun hd5 => ?_)
        refine E.m (h.aload_n 0 dX10_other_37 rfl) ?_
        refine E.m (h.get h0 lf_RX10_26 dX10_other_38 fv_10_2) ?_
        refine E.m (h.get (hW.clo 35 h0 rfl) lf_RX10_77 dX10_other_41 fv_8_0) ?_
        refine E.m (h.get (hW.clo 25 (hW.clo 35 h0 rfl) rfl) lf_RX10_86 dX10_other_44 fv_9_1) ?_
        refine E.m (h.get (hW.clo 32 (hW.clo 25 (hW.clo 35 h0 rfl) rfl) rfl) lf_RX10_193 dX10_other_47 fv_1_0) ?_
        refine E.bnd (fun u6 M7 => w M7 53 [(0, .ref t), (1, .int x1_)] [.int u6]) (fun u6 M7 hf k => h.callV (As := [.ref (t + 19), .ref (M.2.2 0), .int (M.1 (t + 19 + 1 + 1) 0)]) (rest := []) (c_X2_agrees hW (hW.clo 37 h0 rfl) (hW.clo 35 h0 rfl) (hs2 hd5 (hW.clo 38 h0 rfl) (hW.clo 39 h0 rfl)) hf) lm_X2_agrees lv_m_X2_agrees ll_RX10_324 (hW.clo 37 h0 rfl) lc_2 rfl rfl (Nat.le_of_ble_eq_true rfl) (by decide) dX10_other_50 rfl k) (fun u6 M7 => ?_)
        refine E.join1 (fun z8 => w M7 61 [(0, .ref t), (1, .int x1_)] [.int z8]) (fun z8 => ?_) (fun J61 hJ61 => ?_)
        · exact E.some (ret_x hr rfl dX10_other_61)
        refine E.br (fun k1 k2 => h.if_eq (tgt := 60) dX10_other_53 (by decide) k1 k2) ?_ ?_
        · refine E.m (h.iconst (v := (0 : Int32)) dX10_other_60 (by decide)) ?_
          exact hJ61 _
        · refine E.m (h.iconst (v := (1 : Int32)) dX10_other_56 (by decide)) ?_
          refine E.m (h.goto (tgt := 61) dX10_other_57 (by decide)) ?_
          exact hJ61 _
      · refine E.m (h.aload_n 0 dX10_other_62 rfl) ?_
        refine E.m (h.get h0 lf_RX10_36 dX10_other_63 fv_10_5) ?_
        refine E.m (h.aload_n 0 dX10_other_66 rfl) ?_
        refine E.m (h.get h0 lf_RX10_26 dX10_other_67 fv_10_2) ?_
        refine E.m (h.aload_n 0 dX10_other_70 rfl) ?_
        refine E.gd (fun _ k => h.get h0 lf_RX10_19 dX10_other_71 fv_10_1 k) (fun hd1 => ?_)
        refine E.bnd (fun _ M3 => w M3 77 [(0, .ref t), (1, .int x1_)] []) (fun _ M3 hf k => h.callV (As := [.ref (t + 19), .ref (M.2.2 0)]) (rest := []) (c_X2_findOthers hW (hW.clo 37 h0 rfl) (hW.clo 35 h0 rfl) (hs2 hd1 (hW.clo 38 h0 rfl) (hW.clo 39 h0 rfl)) hf) lm_X2_findOthers lv_m_X2_findOthers ll_RX10_328 (hW.clo 37 h0 rfl) lc_2 rfl rfl (Nat.le_of_ble_eq_true rfl) (by decide) dX10_other_74 rfl k) (fun _ M3 => ?_)
        refine E.m (h.iload_n 1 dX10_other_77 rfl) ?_
        refine E.join1 (fun z4 => w M3 98 [(0, .ref t), (1, .int x1_)] [.int z4]) (fun z4 => ?_) (fun J98 hJ98 => ?_)
        · exact E.some (ret_x hr rfl dX10_other_98)
        refine E.br (fun k1 k2 => h.if_ne (tgt := 91) dX10_other_78 (by decide) k2 k1) ?_ ?_
        · refine E.m (h.aload_n 0 dX10_other_81 rfl) ?_
          refine E.m (h.get h0 lf_RX10_36 dX10_other_82 fv_10_5) ?_
          refine E.m (h.get (hW.clo 37 h0 rfl) lf_RX10_332 dX10_other_85 fv_2_3) ?_
          refine E.m (h.goto (tgt := 98) dX10_other_88 (by decide)) ?_
          exact hJ98 _
        · refine E.m (h.aload_n 0 dX10_other_91 rfl) ?_
          refine E.m (h.get h0 lf_RX10_36 dX10_other_92 fv_10_5) ?_
          refine E.m (h.get (hW.clo 37 h0 rfl) lf_RX10_335 dX10_other_95 fv_2_4) ?_
          exact hJ98 _
    · exact hJ9 ()
def f_X10_look (t : Nat) (x1_ : Int32) (M : Mem) : Option ((Int32 ⊕ Nat) × Mem) :=
  jn0 (fun _ => some (.inr 0, M)) (fun J9 => if x1_ < 0 then (J9 ()) else (if x1_ ≤ (1 : Int32) then (gdp (M.2.2 0 = t + 3 ∨ M.2.2 0 = t + 11) (bd (f_X2_findOthers (t + 79) (t + 19) (M.2.2 0) M) (fun _ M3 => bd (f_X2_findLook (t + 79) M3) (fun _ M5 => jn1 (fun z6 => some (.inl z6, M5)) (fun J63 => if x1_ = 0 then (J63 (M5.1 (t + 79) 1)) else (J63 (M5.1 (t + 79) 2))))))) else (J9 ())))
set_option maxRecDepth 20000 in
theorem c_X10_look {G : Ctx} (hfl : (gl G).stackTraces = false) (hW : WFG G) {t : Nat} {x1_ : Int32} {M M' : Mem} {r : Int32 ⊕ Nat} (h0 : hs G t (0, 10)) (hf : f_X10_look t x1_ M = some (r, M')) : CtX G yX10_look cX10_look 2 (some .int) 10 200 [.ref t, .int x1_] M r M' := by
  refine ct_x hfl hW (by decide +kernel) (Nat.le_of_ble_eq_true rfl) (by decide) (fun w h hr ht => ?_)
  have h : Rb G cX10_look RX10 2 10 200 w := h
  refine (?_ : E (fun q => q = (r, M')) (f_X10_look t x1_ M) (w M 0 [(0, .ref t), (1, .int x1_)] [])) _ hf rfl
  unfold f_X10_look
  refine E.m (h.iload_n 1 dX10_look_0 rfl) ?_
  refine E.join0 (fun _ => w M 9 [(0, .ref t), (1, .int x1_)] []) (fun _ => ?_) (fun J9 hJ9 => ?_)
  · exact E.some (ret_t ht th_176_180 (is := 287) 27 rfl ⟨dX10_look_9, dX10_look_12, Or.inr ⟨dX10_look_13, dX10_look_16, dX10_look_19⟩⟩)
  refine E.br (fun k1 k2 => h.if_lt (tgt := 9) dX10_look_1 (by decide) k1 k2) ?_ ?_
  · exact hJ9 ()
  · refine E.m (h.iload_n 1 dX10_look_4 rfl) ?_
    refine E.m (h.iconst (v := (1 : Int32)) dX10_look_5 (by decide)) ?_
    refine E.br (fun k1 k2 => h.icmp_le (tgt := 20) dX10_look_6 (by decide) k1 k2) ?_ ?_
    · refine E.m (h.aload_n 0 dX10_look_20 rfl) ?_
      refine E.m (h.get h0 lf_RX10_36 dX10_look_21 fv_10_5) ?_
      refine E.m (h.aload_n 0 dX10_look_24 rfl) ?_
      refine E.m (h.get h0 lf_RX10_26 dX10_look_25 fv_10_2) ?_
      refine E.m (h.aload_n 0 dX10_look_28 rfl) ?_
      refine E.gd (fun _ k => h.get h0 lf_RX10_19 dX10_look_29 fv_10_1 k) (fun hd1 => ?_)
      refine E.bnd (fun _ M3 => w M3 35 [(0, .ref t), (1, .int x1_)] []) (fun _ M3 hf k => h.callV (As := [.ref (t + 19), .ref (M.2.2 0)]) (rest := []) (c_X2_findOthers hW (hW.clo 37 h0 rfl) (hW.clo 35 h0 rfl) (hs2 hd1 (hW.clo 38 h0 rfl) (hW.clo 39 h0 rfl)) hf) lm_X2_findOthers lv_m_X2_findOthers ll_RX10_328 (hW.clo 37 h0 rfl) lc_2 rfl rfl (Nat.le_of_ble_eq_true rfl) (by decide) dX10_look_32 rfl k) (fun _ M3 => ?_)
      refine E.m (h.aload_n 0 dX10_look_35 rfl) ?_
      refine E.m (h.get h0 lf_RX10_36 dX10_look_36 fv_10_5) ?_
      refine E.bnd (fun _ M5 => w M5 42 [(0, .ref t), (1, .int x1_)] []) (fun _ M5 hf k => h.callV (As := []) (rest := []) (c_X2_findLook hW (hW.clo 37 h0 rfl) hf) lm_X2_findLook lv_m_X2_findLook ll_RX10_338 (hW.clo 37 h0 rfl) lc_2 rfl rfl (Nat.le_of_ble_eq_true rfl) (by decide) dX10_look_39 rfl k) (fun _ M5 => ?_)
      refine E.m (h.iload_n 1 dX10_look_42 rfl) ?_
      refine E.join1 (fun z6 => w M5 63 [(0, .ref t), (1, .int x1_)] [.int z6]) (fun z6 => ?_) (fun J63 hJ63 => ?_)
      · exact E.some (ret_x hr rfl dX10_look_63)
      refine E.br (fun k1 k2 => h.if_ne (tgt := 56) dX10_look_43 (by decide) k2 k1) ?_ ?_
      · refine E.m (h.aload_n 0 dX10_look_46 rfl) ?_
        refine E.m (h.get h0 lf_RX10_36 dX10_look_47 fv_10_5) ?_
        refine E.m (h.get (hW.clo 37 h0 rfl) lf_RX10_312 dX10_look_50 fv_2_1) ?_
        refine E.m (h.goto (tgt := 63) dX10_look_53 (by decide)) ?_
        exact hJ63 _
      · refine E.m (h.aload_n 0 dX10_look_56 rfl) ?_
        refine E.m (h.get h0 lf_RX10_36 dX10_look_57 fv_10_5) ?_
        refine E.m (h.get (hW.clo 37 h0 rfl) lf_RX10_315 dX10_look_60 fv_2_2) ?_
        exact hJ63 _
    · exact hJ9 ()
def f_X10_storms (t : Nat) (x1_ : Int32) (x2_ : Int32) (M : Mem) : Option ((Int32 ⊕ Nat) × Mem) :=
  jn0 (fun _ => some (.inr 1, M)) (fun J20 => if x1_ < (1 : Int32) then (J20 ()) else (if (5 : Int32) < x1_ then (J20 ()) else (if x2_ < 0 then (J20 ()) else (if x2_ ≤ (10 : Int32) then (gdp (M.2.2 0 = t + 3 ∨ M.2.2 0 = t + 11) (bd (f_X2_unharmed (t + 79) (t + 19 + 1) (M.2.2 0) x1_ x2_ M) (fun u2 M3 => some (.inl u2, M3)))) else (J20 ())))))
set_option maxRecDepth 20000 in
theorem c_X10_storms {G : Ctx} (hfl : (gl G).stackTraces = false) (hW : WFG G) {t : Nat} {x1_ : Int32} {x2_ : Int32} {M M' : Mem} {r : Int32 ⊕ Nat} (h0 : hs G t (0, 10)) (hf : f_X10_storms t x1_ x2_ M = some (r, M')) : CtX G yX10_storms cX10_storms 3 (some .int) 10 200 [.ref t, .int x1_, .int x2_] M r M' := by
  refine ct_x hfl hW (by decide +kernel) (Nat.le_of_ble_eq_true rfl) (by decide) (fun w h hr ht => ?_)
  have h : Rb G cX10_storms RX10 3 10 200 w := h
  refine (?_ : E (fun q => q = (r, M')) (f_X10_storms t x1_ x2_ M) (w M 0 [(0, .ref t), (1, .int x1_), (2, .int x2_)] [])) _ hf rfl
  unfold f_X10_storms
  refine E.m (h.iload_n 1 dX10_storms_0 rfl) ?_
  refine E.m (h.iconst (v := (1 : Int32)) dX10_storms_1 (by decide)) ?_
  refine E.join0 (fun _ => w M 20 [(0, .ref t), (1, .int x1_), (2, .int x2_)] []) (fun _ => ?_) (fun J20 hJ20 => ?_)
  · exact E.some (ret_t ht th_52_56 (is := 341) 30 rfl ⟨dX10_storms_20, dX10_storms_23, Or.inr ⟨dX10_storms_24, dX10_storms_27, dX10_storms_30⟩⟩)
  refine E.br (fun k1 k2 => h.icmp_lt (tgt := 20) dX10_storms_2 (by decide) k1 k2) ?_ ?_
  · exact hJ20 ()
  · refine E.m (h.iload_n 1 dX10_storms_5 rfl) ?_
    refine E.m (h.iconst (v := (5 : Int32)) dX10_storms_6 (by decide)) ?_
    refine E.br (fun k1 k2 => h.icmp_gt (tgt := 20) dX10_storms_7 (by decide) k1 k2) ?_ ?_
    · exact hJ20 ()
    · refine E.m (h.iload_n 2 dX10_storms_10 rfl) ?_
      refine E.br (fun k1 k2 => h.if_lt (tgt := 20) dX10_storms_11 (by decide) k1 k2) ?_ ?_
      · exact hJ20 ()
      · refine E.m (h.iload_n 2 dX10_storms_14 rfl) ?_
        refine E.m (h.bipush (v := (10 : Int32)) dX10_storms_15 (by decide)) ?_
        refine E.br (fun k1 k2 => h.icmp_le (tgt := 31) dX10_storms_17 (by decide) k1 k2) ?_ ?_
        · refine E.m (h.aload_n 0 dX10_storms_31 rfl) ?_
          refine E.m (h.get h0 lf_RX10_36 dX10_storms_32 fv_10_5) ?_
          refine E.m (h.aload_n 0 dX10_storms_35 rfl) ?_
          refine E.m (h.get h0 lf_RX10_26 dX10_storms_36 fv_10_2) ?_
          refine E.m (h.get (hW.clo 35 h0 rfl) lf_RX10_77 dX10_storms_39 fv_8_0) ?_
          refine E.m (h.aload_n 0 dX10_storms_42 rfl) ?_
          refine E.gd (fun _ k => h.get h0 lf_RX10_19 dX10_storms_43 fv_10_1 k) (fun hd1 => ?_)
          refine E.m (h.iload_n 1 dX10_storms_46 rfl) ?_
          refine E.m (h.iload_n 2 dX10_storms_47 rfl) ?_
          refine E.bnd (fun u2 M3 => w M3 51 [(0, .ref t), (1, .int x1_), (2, .int x2_)] [.int u2]) (fun u2 M3 hf k => h.callV (As := [.ref (t + 19 + 1), .ref (M.2.2 0), .int x1_, .int x2_]) (rest := []) (c_X2_unharmed hW (hW.clo 37 h0 rfl) (hW.clo 25 (hW.clo 35 h0 rfl) rfl) (hs2 hd1 (hW.clo 38 h0 rfl) (hW.clo 39 h0 rfl)) hf) lm_X2_unharmed lv_m_X2_unharmed ll_RX10_343 (hW.clo 37 h0 rfl) lc_2 rfl rfl (Nat.le_of_ble_eq_true rfl) (by decide) dX10_storms_48 rfl k) (fun u2 M3 => ?_)
          exact E.some (ret_x hr rfl dX10_storms_51)
        · exact hJ20 ()
def f_X10_years (t : Nat) (x1_ : Int32) (x2_ : Int32) (x3_ : Int32) (M : Mem) : Option ((Int32 ⊕ Nat) × Mem) :=
  jn0 (fun _ => some (.inr 0, M)) (fun J9 => if x3_ < 0 then (J9 ()) else (if x3_ ≤ (2 : Int32) then (jn0 (fun _ => some (.inr 1, M)) (fun J30 => if x2_ < 0 then (J30 ()) else (if x2_ ≤ (60 : Int32) then (gdp (M.2.2 0 = t + 3 ∨ M.2.2 0 = t + 11) (bd (f_X2_byChance (t + 79) (t + 19 + 1) (M.2.2 0) x1_ x2_ x3_ M) (fun u2 M3 => some (.inl u2, M3)))) else (J30 ())))) else (J9 ())))
set_option maxRecDepth 20000 in
theorem c_X10_years {G : Ctx} (hfl : (gl G).stackTraces = false) (hW : WFG G) {t : Nat} {x1_ : Int32} {x2_ : Int32} {x3_ : Int32} {M M' : Mem} {r : Int32 ⊕ Nat} (h0 : hs G t (0, 10)) (hf : f_X10_years t x1_ x2_ x3_ M = some (r, M')) : CtX G yX10_years cX10_years 4 (some .int) 10 200 [.ref t, .int x1_, .int x2_, .int x3_] M r M' := by
  refine ct_x hfl hW (by decide +kernel) (Nat.le_of_ble_eq_true rfl) (by decide) (fun w h hr ht => ?_)
  have h : Rb G cX10_years RX10 4 10 200 w := h
  refine (?_ : E (fun q => q = (r, M')) (f_X10_years t x1_ x2_ x3_ M) (w M 0 [(0, .ref t), (1, .int x1_), (2, .int x2_), (3, .int x3_)] [])) _ hf rfl
  unfold f_X10_years
  refine E.m (h.iload_n 3 dX10_years_0 rfl) ?_
  refine E.join0 (fun _ => w M 9 [(0, .ref t), (1, .int x1_), (2, .int x2_), (3, .int x3_)] []) (fun _ => ?_) (fun J9 hJ9 => ?_)
  · exact E.some (ret_t ht th_176_180 (is := 287) 27 rfl ⟨dX10_years_9, dX10_years_12, Or.inr ⟨dX10_years_13, dX10_years_16, dX10_years_19⟩⟩)
  refine E.br (fun k1 k2 => h.if_lt (tgt := 9) dX10_years_1 (by decide) k1 k2) ?_ ?_
  · exact hJ9 ()
  · refine E.m (h.iload_n 3 dX10_years_4 rfl) ?_
    refine E.m (h.iconst (v := (2 : Int32)) dX10_years_5 (by decide)) ?_
    refine E.br (fun k1 k2 => h.icmp_le (tgt := 20) dX10_years_6 (by decide) k1 k2) ?_ ?_
    · refine E.m (h.iload_n 2 dX10_years_20 rfl) ?_
      refine E.join0 (fun _ => w M 30 [(0, .ref t), (1, .int x1_), (2, .int x2_), (3, .int x3_)] []) (fun _ => ?_) (fun J30 hJ30 => ?_)
      · exact E.some (ret_t ht th_52_56 (is := 346) 31 rfl ⟨dX10_years_30, dX10_years_33, Or.inr ⟨dX10_years_34, dX10_years_37, dX10_years_40⟩⟩)
      refine E.br (fun k1 k2 => h.if_lt (tgt := 30) dX10_years_21 (by decide) k1 k2) ?_ ?_
      · exact hJ30 ()
      · refine E.m (h.iload_n 2 dX10_years_24 rfl) ?_
        refine E.m (h.bipush (v := (60 : Int32)) dX10_years_25 (by decide)) ?_
        refine E.br (fun k1 k2 => h.icmp_le (tgt := 41) dX10_years_27 (by decide) k1 k2) ?_ ?_
        · refine E.m (h.aload_n 0 dX10_years_41 rfl) ?_
          refine E.m (h.get h0 lf_RX10_36 dX10_years_42 fv_10_5) ?_
          refine E.m (h.aload_n 0 dX10_years_45 rfl) ?_
          refine E.m (h.get h0 lf_RX10_26 dX10_years_46 fv_10_2) ?_
          refine E.m (h.get (hW.clo 35 h0 rfl) lf_RX10_77 dX10_years_49 fv_8_0) ?_
          refine E.m (h.aload_n 0 dX10_years_52 rfl) ?_
          refine E.gd (fun _ k => h.get h0 lf_RX10_19 dX10_years_53 fv_10_1 k) (fun hd1 => ?_)
          refine E.m (h.iload_n 1 dX10_years_56 rfl) ?_
          refine E.m (h.iload_n 2 dX10_years_57 rfl) ?_
          refine E.m (h.iload_n 3 dX10_years_58 rfl) ?_
          refine E.bnd (fun u2 M3 => w M3 62 [(0, .ref t), (1, .int x1_), (2, .int x2_), (3, .int x3_)] [.int u2]) (fun u2 M3 hf k => h.callV (As := [.ref (t + 19 + 1), .ref (M.2.2 0), .int x1_, .int x2_, .int x3_]) (rest := []) (c_X2_byChance hW (hW.clo 37 h0 rfl) (hW.clo 25 (hW.clo 35 h0 rfl) rfl) (hs2 hd1 (hW.clo 38 h0 rfl) (hW.clo 39 h0 rfl)) hf) lm_X2_byChance lv_m_X2_byChance ll_RX10_348 (hW.clo 37 h0 rfl) lc_2 rfl rfl (Nat.le_of_ble_eq_true rfl) (by decide) dX10_years_59 rfl k) (fun u2 M3 => ?_)
          exact E.some (ret_x hr rfl dX10_years_62)
        · exact hJ30 ()
    · exact hJ9 ()
