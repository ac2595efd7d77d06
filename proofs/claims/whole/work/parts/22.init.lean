def sPos : List Nat := [947, 995, 1048, 1049, 1050, 1051, 1052, 1053, 1054, 1055, 1084, 1085, 1086, 1087, 1096, 1101, 1102, 1151, 1166, 1174, 1182, 1195, 1208, 1214, 1222, 1235, 1253, 1268, 1269, 1301, 1372, 1391, 1414, 1415, 1416, 1417, 1418, 1419, 1420, 1421, 1422, 1423, 1424, 1425, 1426, 1692, 1713, 1714]
def nPos : List Nat := [124, 136, 155, 265, 271, 277, 349, 355, 402, 544, 549, 644, 657, 660, 685, 703, 707, 711, 724, 729, 734, 739, 744, 747, 761, 762, 767, 768, 785, 795, 804, 805, 838, 850, 855, 894, 983, 1136, 1341, 1353, 1401]
def tmT : List (String × Nat) := [("CircuitCellsModel", 11), ("CircuitCellsModel", 13), ("CircuitCellsModel", 15), ("CircuitCellsModel", 17), ("CircuitCellsModel", 23), ("CircuitCellsModel", 25), ("CircuitCellsModel", 27), ("CircuitCellsModel", 29), ("CircuitCellsModel", 31), ("CircuitCellsModel", 33), ("CircuitCellsModel", 35), ("CircuitCellsModel", 37), ("CircuitCellsModel", 39), ("CircuitCellsModel", 235), ("CircuitCellsModel", 230), ("CircuitCellsModel", 222), ("CircuitCells$Reader", 181), ("CircuitCells$Reader", 183), ("CircuitCells$Reader", 185), ("CircuitCells$Reader", 187), ("CircuitCells$Reader", 91), ("CircuitCells$Reader", 97), ("CircuitCells$Reader", 99), ("CircuitCells$Reader", 101), ("CircuitCells$Reader", 103), ("CircuitCells$Reader", 105), ("CircuitCells$Reader", 107), ("CircuitCells$Reader", 109), ("CircuitCells$Reader", 110), ("CircuitCells$Reader", 174), ("CircuitCells$Reader", 176), ("CircuitCells$Reader", 172)]
def ePos : List (List Nat) := [[499, 500, 501, 502, 503, 504], [510, 511, 512, 513], [519, 520, 521, 522], [528, 529, 530, 531, 532, 533], [539, 540, 541, 542], [548, 549, 550, 551, 552, 553], [559, 560, 561, 562], [568, 569, 570, 571, 572], [578, 579, 580, 581, 582, 583], [589, 590, 591, 592, 593], [599, 600, 601, 602], [608, 609, 610, 611, 612], [618, 619, 620, 621], [643, 644], [635, 636, 637], [627, 628, 629], [154, 155, 156, 157, 158, 159], [164, 165, 166, 167], [172, 173, 174, 175], [180, 181, 182, 183, 184, 185], [75, 76, 77, 78], [83, 84, 85, 86, 87, 88], [93, 94, 95, 96], [101, 102, 103, 104, 105], [110, 111, 112, 113, 114, 115], [120, 121, 122, 123, 124], [129, 130, 131, 132], [137, 138, 139, 140, 141], [146, 147, 148, 149], [197, 198], [203, 204, 205], [190, 191, 192]]
def tmS (i : Nat) : Term := .string (tmT.getD i ("", 0)).1 (tmT.getD i ("", 0)).2
theorem st_in : ∀ j, j < 48 → lw_tbl[sPos.getD j 0]? = some (Cond.stringRef (strT.getD j ("", 0, "", 0)).1 (strT.getD j ("", 0, "", 0)).2.1 (strT.getD j ("", 0, "", 0)).2.2.1) := by decide +kernel
theorem st_own : ∀ q ∈ strT, q.1 = RX10 ∨ q.1 = RX6 ∨ q.1 = RX11 := by decide +kernel
theorem st_uni : ∀ q ∈ strT, ∀ r ∈ strT, q.2.2.2 = r.2.2.2 → q = r := by decide +kernel
theorem st_tm : ∀ i, i < 32 → ∃ q ∈ strT, q.2.2.2 = i ∧ tmS i = .string q.1 q.2.1 := by
  intro i hi
  have h : ∀ i, i < 32 → ∃ j, j < 48 ∧ (strT.getD j ("", 0, "", 0)).2.2.2 = i ∧ tmT.getD i ("", 0) = ((strT.getD j ("", 0, "", 0)).1, (strT.getD j ("", 0, "", 0)).2.1) := by decide +kernel
  obtain ⟨j, hj, h1, h2⟩ := h i hi
  refine ⟨strT.getD j ("", 0, "", 0), ?_, h1, by rw [tmS, h2]⟩
  have h3 : strT[j]? = some (strT.getD j ("", 0, "", 0)) := by
    have h4 : strT.length = 48 := rfl
    rw [List.getD_eq_getElem?_getD, List.getElem?_eq_getElem (by omega)]; rfl
  exact List.mem_of_getElem? h3
theorem nx_in : ∀ j, j < nestT.length → lw_tbl[nPos.getD j 0]? = some (Cond.methodLinkNest (nestT.getD j ("", 0, ⟨"", "", ""⟩, "")).1 (nestT.getD j ("", 0, ⟨"", "", ""⟩, "")).2.1 (nestT.getD j ("", 0, ⟨"", "", ""⟩, "")).2.2.1 (nestT.getD j ("", 0, ⟨"", "", ""⟩, "")).2.2.2) := by decide +kernel
def gvn : List Cond := flatC (Jvm.Cond.and given_1 narrow_1)
theorem gv_ex : ∀ i, i < 32 → Cond.exactly (tmS i) "java/lang/String" ∈ gvn := by decide +kernel
theorem gv_co : ∀ i, i < 32 → Cond.eq (.field (tmS i) "java/lang/String" "coder" "B") (.int 0) ∈ gvn := by decide +kernel
theorem gv_ar : ∀ i, i < 32 → Cond.arrayOf (.field (tmS i) "java/lang/String" "value" "[B") .byte ∈ gvn := by decide +kernel
theorem gv_le : ∀ i, i < 32 → Cond.eq (.length (.field (tmS i) "java/lang/String" "value" "[B")) (.int (Int32.ofNat (sLen.getD i 0))) ∈ gvn := by decide +kernel
theorem gv_el_0 : ∀ j, j < sLen.getD 0 0 → gvn[(ePos.getD 0 []).getD j 0]? = some (Cond.eq (.elem (.field (tmS 0) "java/lang/String" "value" "[B") (.int (Int32.ofNat j))) (.int ((sByt.getD 0 []).getD j 0))) := by decide +kernel
theorem gv_el_1 : ∀ j, j < sLen.getD 1 0 → gvn[(ePos.getD 1 []).getD j 0]? = some (Cond.eq (.elem (.field (tmS 1) "java/lang/String" "value" "[B") (.int (Int32.ofNat j))) (.int ((sByt.getD 1 []).getD j 0))) := by decide +kernel
theorem gv_el_2 : ∀ j, j < sLen.getD 2 0 → gvn[(ePos.getD 2 []).getD j 0]? = some (Cond.eq (.elem (.field (tmS 2) "java/lang/String" "value" "[B") (.int (Int32.ofNat j))) (.int ((sByt.getD 2 []).getD j 0))) := by decide +kernel
theorem gv_el_3 : ∀ j, j < sLen.getD 3 0 → gvn[(ePos.getD 3 []).getD j 0]? = some (Cond.eq (.elem (.field (tmS 3) "java/lang/String" "value" "[B") (.int (Int32.ofNat j))) (.int ((sByt.getD 3 []).getD j 0))) := by decide +kernel
theorem gv_el_4 : ∀ j, j < sLen.getD 4 0 → gvn[(ePos.getD 4 []).getD j 0]? = some (Cond.eq (.elem (.field (tmS 4) "java/lang/String" "value" "[B") (.int (Int32.ofNat j))) (.int ((sByt.getD 4 []).getD j 0))) := by decide +kernel
theorem gv_el_5 : ∀ j, j < sLen.getD 5 0 → gvn[(ePos.getD 5 []).getD j 0]? = some (Cond.eq (.elem (.field (tmS 5) "java/lang/String" "value" "[B") (.int (Int32.ofNat j))) (.int ((sByt.getD 5 []).getD j 0))) := by decide +kernel
theorem gv_el_6 : ∀ j, j < sLen.getD 6 0 → gvn[(ePos.getD 6 []).getD j 0]? = some (Cond.eq (.elem (.field (tmS 6) "java/lang/String" "value" "[B") (.int (Int32.ofNat j))) (.int ((sByt.getD 6 []).getD j 0))) := by decide +kernel
theorem gv_el_7 : ∀ j, j < sLen.getD 7 0 → gvn[(ePos.getD 7 []).getD j 0]? = some (Cond.eq (.elem (.field (tmS 7) "java/lang/String" "value" "[B") (.int (Int32.ofNat j))) (.int ((sByt.getD 7 []).getD j 0))) := by decide +kernel
theorem gv_el_8 : ∀ j, j < sLen.getD 8 0 → gvn[(ePos.getD 8 []).getD j 0]? = some (Cond.eq (.elem (.field (tmS 8) "java/lang/String" "value" "[B") (.int (Int32.ofNat j))) (.int ((sByt.getD 8 []).getD j 0))) := by decide +kernel
theorem gv_el_9 : ∀ j, j < sLen.getD 9 0 → gvn[(ePos.getD 9 []).getD j 0]? = some (Cond.eq (.elem (.field (tmS 9) "java/lang/String" "value" "[B") (.int (Int32.ofNat j))) (.int ((sByt.getD 9 []).getD j 0))) := by decide +kernel
theorem gv_el_10 : ∀ j, j < sLen.getD 10 0 → gvn[(ePos.getD 10 []).getD j 0]? = some (Cond.eq (.elem (.field (tmS 10) "java/lang/String" "value" "[B") (.int (Int32.ofNat j))) (.int ((sByt.getD 10 []).getD j 0))) := by decide +kernel
theorem gv_el_11 : ∀ j, j < sLen.getD 11 0 → gvn[(ePos.getD 11 []).getD j 0]? = some (Cond.eq (.elem (.field (tmS 11) "java/lang/String" "value" "[B") (.int (Int32.ofNat j))) (.int ((sByt.getD 11 []).getD j 0))) := by decide +kernel
theorem gv_el_12 : ∀ j, j < sLen.getD 12 0 → gvn[(ePos.getD 12 []).getD j 0]? = some (Cond.eq (.elem (.field (tmS 12) "java/lang/String" "value" "[B") (.int (Int32.ofNat j))) (.int ((sByt.getD 12 []).getD j 0))) := by decide +kernel
theorem gv_el_13 : ∀ j, j < sLen.getD 13 0 → gvn[(ePos.getD 13 []).getD j 0]? = some (Cond.eq (.elem (.field (tmS 13) "java/lang/String" "value" "[B") (.int (Int32.ofNat j))) (.int ((sByt.getD 13 []).getD j 0))) := by decide +kernel
theorem gv_el_14 : ∀ j, j < sLen.getD 14 0 → gvn[(ePos.getD 14 []).getD j 0]? = some (Cond.eq (.elem (.field (tmS 14) "java/lang/String" "value" "[B") (.int (Int32.ofNat j))) (.int ((sByt.getD 14 []).getD j 0))) := by decide +kernel
theorem gv_el_15 : ∀ j, j < sLen.getD 15 0 → gvn[(ePos.getD 15 []).getD j 0]? = some (Cond.eq (.elem (.field (tmS 15) "java/lang/String" "value" "[B") (.int (Int32.ofNat j))) (.int ((sByt.getD 15 []).getD j 0))) := by decide +kernel
theorem gv_el_16 : ∀ j, j < sLen.getD 16 0 → gvn[(ePos.getD 16 []).getD j 0]? = some (Cond.eq (.elem (.field (tmS 16) "java/lang/String" "value" "[B") (.int (Int32.ofNat j))) (.int ((sByt.getD 16 []).getD j 0))) := by decide +kernel
theorem gv_el_17 : ∀ j, j < sLen.getD 17 0 → gvn[(ePos.getD 17 []).getD j 0]? = some (Cond.eq (.elem (.field (tmS 17) "java/lang/String" "value" "[B") (.int (Int32.ofNat j))) (.int ((sByt.getD 17 []).getD j 0))) := by decide +kernel
theorem gv_el_18 : ∀ j, j < sLen.getD 18 0 → gvn[(ePos.getD 18 []).getD j 0]? = some (Cond.eq (.elem (.field (tmS 18) "java/lang/String" "value" "[B") (.int (Int32.ofNat j))) (.int ((sByt.getD 18 []).getD j 0))) := by decide +kernel
theorem gv_el_19 : ∀ j, j < sLen.getD 19 0 → gvn[(ePos.getD 19 []).getD j 0]? = some (Cond.eq (.elem (.field (tmS 19) "java/lang/String" "value" "[B") (.int (Int32.ofNat j))) (.int ((sByt.getD 19 []).getD j 0))) := by decide +kernel
theorem gv_el_20 : ∀ j, j < sLen.getD 20 0 → gvn[(ePos.getD 20 []).getD j 0]? = some (Cond.eq (.elem (.field (tmS 20) "java/lang/String" "value" "[B") (.int (Int32.ofNat j))) (.int ((sByt.getD 20 []).getD j 0))) := by decide +kernel
theorem gv_el_21 : ∀ j, j < sLen.getD 21 0 → gvn[(ePos.getD 21 []).getD j 0]? = some (Cond.eq (.elem (.field (tmS 21) "java/lang/String" "value" "[B") (.int (Int32.ofNat j))) (.int ((sByt.getD 21 []).getD j 0))) := by decide +kernel
theorem gv_el_22 : ∀ j, j < sLen.getD 22 0 → gvn[(ePos.getD 22 []).getD j 0]? = some (Cond.eq (.elem (.field (tmS 22) "java/lang/String" "value" "[B") (.int (Int32.ofNat j))) (.int ((sByt.getD 22 []).getD j 0))) := by decide +kernel
theorem gv_el_23 : ∀ j, j < sLen.getD 23 0 → gvn[(ePos.getD 23 []).getD j 0]? = some (Cond.eq (.elem (.field (tmS 23) "java/lang/String" "value" "[B") (.int (Int32.ofNat j))) (.int ((sByt.getD 23 []).getD j 0))) := by decide +kernel
theorem gv_el_24 : ∀ j, j < sLen.getD 24 0 → gvn[(ePos.getD 24 []).getD j 0]? = some (Cond.eq (.elem (.field (tmS 24) "java/lang/String" "value" "[B") (.int (Int32.ofNat j))) (.int ((sByt.getD 24 []).getD j 0))) := by decide +kernel
theorem gv_el_25 : ∀ j, j < sLen.getD 25 0 → gvn[(ePos.getD 25 []).getD j 0]? = some (Cond.eq (.elem (.field (tmS 25) "java/lang/String" "value" "[B") (.int (Int32.ofNat j))) (.int ((sByt.getD 25 []).getD j 0))) := by decide +kernel
theorem gv_el_26 : ∀ j, j < sLen.getD 26 0 → gvn[(ePos.getD 26 []).getD j 0]? = some (Cond.eq (.elem (.field (tmS 26) "java/lang/String" "value" "[B") (.int (Int32.ofNat j))) (.int ((sByt.getD 26 []).getD j 0))) := by decide +kernel
theorem gv_el_27 : ∀ j, j < sLen.getD 27 0 → gvn[(ePos.getD 27 []).getD j 0]? = some (Cond.eq (.elem (.field (tmS 27) "java/lang/String" "value" "[B") (.int (Int32.ofNat j))) (.int ((sByt.getD 27 []).getD j 0))) := by decide +kernel
theorem gv_el_28 : ∀ j, j < sLen.getD 28 0 → gvn[(ePos.getD 28 []).getD j 0]? = some (Cond.eq (.elem (.field (tmS 28) "java/lang/String" "value" "[B") (.int (Int32.ofNat j))) (.int ((sByt.getD 28 []).getD j 0))) := by decide +kernel
theorem gv_el_29 : ∀ j, j < sLen.getD 29 0 → gvn[(ePos.getD 29 []).getD j 0]? = some (Cond.eq (.elem (.field (tmS 29) "java/lang/String" "value" "[B") (.int (Int32.ofNat j))) (.int ((sByt.getD 29 []).getD j 0))) := by decide +kernel
theorem gv_el_30 : ∀ j, j < sLen.getD 30 0 → gvn[(ePos.getD 30 []).getD j 0]? = some (Cond.eq (.elem (.field (tmS 30) "java/lang/String" "value" "[B") (.int (Int32.ofNat j))) (.int ((sByt.getD 30 []).getD j 0))) := by decide +kernel
theorem gv_el_31 : ∀ j, j < sLen.getD 31 0 → gvn[(ePos.getD 31 []).getD j 0]? = some (Cond.eq (.elem (.field (tmS 31) "java/lang/String" "value" "[B") (.int (Int32.ofNat j))) (.int ((sByt.getD 31 []).getD j 0))) := by decide +kernel
theorem gv_el : ∀ i, i < 32 → ∀ j, j < sLen.getD i 0 → Cond.eq (.elem (.field (tmS i) "java/lang/String" "value" "[B") (.int (Int32.ofNat j))) (.int ((sByt.getD i []).getD j 0)) ∈ gvn := fun i hi j hj => match i, hi with
  | 0, _ => List.mem_of_getElem? (gv_el_0 j hj)
  | 1, _ => List.mem_of_getElem? (gv_el_1 j hj)
  | 2, _ => List.mem_of_getElem? (gv_el_2 j hj)
  | 3, _ => List.mem_of_getElem? (gv_el_3 j hj)
  | 4, _ => List.mem_of_getElem? (gv_el_4 j hj)
  | 5, _ => List.mem_of_getElem? (gv_el_5 j hj)
  | 6, _ => List.mem_of_getElem? (gv_el_6 j hj)
  | 7, _ => List.mem_of_getElem? (gv_el_7 j hj)
  | 8, _ => List.mem_of_getElem? (gv_el_8 j hj)
  | 9, _ => List.mem_of_getElem? (gv_el_9 j hj)
  | 10, _ => List.mem_of_getElem? (gv_el_10 j hj)
  | 11, _ => List.mem_of_getElem? (gv_el_11 j hj)
  | 12, _ => List.mem_of_getElem? (gv_el_12 j hj)
  | 13, _ => List.mem_of_getElem? (gv_el_13 j hj)
  | 14, _ => List.mem_of_getElem? (gv_el_14 j hj)
  | 15, _ => List.mem_of_getElem? (gv_el_15 j hj)
  | 16, _ => List.mem_of_getElem? (gv_el_16 j hj)
  | 17, _ => List.mem_of_getElem? (gv_el_17 j hj)
  | 18, _ => List.mem_of_getElem? (gv_el_18 j hj)
  | 19, _ => List.mem_of_getElem? (gv_el_19 j hj)
  | 20, _ => List.mem_of_getElem? (gv_el_20 j hj)
  | 21, _ => List.mem_of_getElem? (gv_el_21 j hj)
  | 22, _ => List.mem_of_getElem? (gv_el_22 j hj)
  | 23, _ => List.mem_of_getElem? (gv_el_23 j hj)
  | 24, _ => List.mem_of_getElem? (gv_el_24 j hj)
  | 25, _ => List.mem_of_getElem? (gv_el_25 j hj)
  | 26, _ => List.mem_of_getElem? (gv_el_26 j hj)
  | 27, _ => List.mem_of_getElem? (gv_el_27 j hj)
  | 28, _ => List.mem_of_getElem? (gv_el_28 j hj)
  | 29, _ => List.mem_of_getElem? (gv_el_29 j hj)
  | 30, _ => List.mem_of_getElem? (gv_el_30 j hj)
  | 31, _ => List.mem_of_getElem? (gv_el_31 j hj)
  | i + 32, h => absurd h (by omega)
theorem gv_st : Cond.isRef (.static Bundle.tN "UNASSIGNED_STACK" Bundle.steD) ∈ gvn ∧ Cond.isRef (.static Bundle.tN "SUPPRESSED_SENTINEL" Bundle.listD) ∈ gvn ∧ Cond.eq (.static "java/lang/String" "COMPACT_STRINGS" "Z") (.int 1) ∈ gvn ∧ Cond.isRef (.static "jdk/internal/util/Preconditions" "SIOOBE_FORMATTER" "Ljava/util/function/BiFunction;") ∈ gvn ∧ Cond.not (.castable "java/lang/IllegalArgumentException" "java/util/NoSuchElementException") ∈ gvn := by decide +kernel
theorem ins_0 : Cond.instantiable RX0 11 ∈ gw := gin 354 (by decide +kernel) rfl
theorem ins_1 : Cond.instantiable RX1 14 ∈ gw := gin 276 (by decide +kernel) rfl
theorem ins_2 : Cond.instantiable RX2 9 ∈ gw := gin 543 (by decide +kernel) rfl
theorem ins_3 : Cond.instantiable RX3 11 ∈ gw := gin 129 (by decide +kernel) rfl
theorem ins_4 : Cond.instantiable RX4 7 ∈ gw := gin 401 (by decide +kernel) rfl
theorem ins_5 : Cond.instantiable RX5 12 ∈ gw := gin 348 (by decide +kernel) rfl
theorem ins_6 : Cond.instantiable RX6 11 ∈ gw := gin 123 (by decide +kernel) rfl
theorem ins_7 : Cond.instantiable RX7 3 ∈ gw := gin 135 (by decide +kernel) rfl
theorem ins_8 : Cond.instantiable RX8 9 ∈ gw := gin 264 (by decide +kernel) rfl
theorem ins_9 : Cond.instantiable RX9 3 ∈ gw := gin 270 (by decide +kernel) rfl
theorem ins_10 : Cond.instantiable RX10 6 ∈ gw := gin 115 (by decide +kernel) rfl
theorem ins_11 : Cond.instantiable RX11 52 ∈ gw := gin 1407 (by decide +kernel) rfl
theorem ins_all : ∀ q ∈ vwCl, Cond.instantiable q.1 q.2.2 ∈ gw := by
  intro q hq
  simp only [vwCl, List.mem_cons, List.not_mem_nil, or_false] at hq
  rcases hq with rfl | rfl | rfl | rfl | rfl | rfl | rfl | rfl | rfl | rfl | rfl | rfl
  · exact ins_0
  · exact ins_1
  · exact ins_2
  · exact ins_3
  · exact ins_4
  · exact ins_5
  · exact ins_6
  · exact ins_7
  · exact ins_8
  · exact ins_9
  · exact ins_10
  · exact ins_11
theorem cl_known {args : Array Value} {s : State} (hts : ∀ w ∈ gw, w.before args s = true) : ∃ D : va_G, ∀ (c : Nat) (q : vw_C), vwCl[c]? = some q → u_Kn s q.1 q.2.1 q.2.2 (D.1 c) (D.2 c) := by
  have h0 : ∀ c : Nat, ∃ d : ClassId × (Nat → Nat), ∀ q : vw_C, vwCl[c]? = some q → u_Kn s q.1 q.2.1 q.2.2 d.1 d.2 := by
    intro c
    cases h : vwCl[c]? with
    | none => exact ⟨(0, fun _ => 0), fun q hq => by cases hq⟩
    | some q0 =>
      obtain ⟨cC, iS, hKn⟩ := u_known hts (ckd q0 (List.mem_of_getElem? h)).1 (hts _ (ins_all q0 (List.mem_of_getElem? h)))
      exact ⟨(cC, iS), fun q hq => by cases hq; exact hKn⟩
  obtain ⟨d, hd⟩ := Classical.axiomOfChoice h0
  exact ⟨(fun c => (d c).1, fun c => (d c).2), fun c q hq => hd c q hq⟩
theorem ar_known {args : Array Value} {s : State} {ty : FieldType} (h : (Cond.arrayClass ty).before args s = true) : ∃ cA : ClassId, ArrOfT s cA ty ∧ s.vm.findClass ("[" ++ ty.toString) = some cA := by
  obtain ⟨cA, kA, comp, h1, h2, h3⟩ := Cond.arrayClass_spec h
  exact ⟨cA, fun n z => ⟨fun k h => (by cases h), kA, h2, comp, h3⟩, h1⟩
theorem ao_known {args : Array Value} {s : State} {C : String} (h : (Cond.arrayOver (.object C)).before args s = true) : ∃ cA : ClassId, ArrOfT s cA (.object C) ∧ va_RA s cA (.object C) := by
  obtain ⟨comp, cA, kA, h1, h2, h3, h4, h5⟩ := Cond.arrayOver_spec h
  exact ⟨cA, fun n z => ⟨fun k h => (by cases h), kA, h3, comp, h4⟩, kA, comp, h3, h4, h1, h5⟩
/-- all that stands at the start, but the cells that are made -/
theorem start_facts {b : Nat} {s : State} (hts : ∀ w ∈ lw_tbl, w.before #[Value.ref b] s = true) (hgv : (Jvm.Cond.and given_1 narrow_1).before #[Value.ref b] s = true) : ∃ (D : va_G) (cA aK aV : Nat → Nat), ∀ (l : Launch) (lay : Nat → Nat × Nat), va_K (gD (l, D, lay, [], cA, aK, aV)) vwCl (gT (l, D, lay, [], cA, aK, aV)) s ∧ SK (l, D, lay, [], cA, aK, aV) s.heap.size s s.heap ∧ va_AO "java/lang/String" s := by
  have htg : ∀ w ∈ gw, w.before #[Value.ref b] s = true := fun w hw => hts w (List.mem_filter.mp hw).1
  have hg : ∀ w ∈ gvn, w.before #[Value.ref b] s = true := flat_of_before _ hgv
  have hm : ∀ {w : Cond} (i : Nat), lw_tbl[i]? = some w → w.before #[Value.ref b] s = true := fun i h => hts _ (List.mem_of_getElem? h)
  obtain ⟨D, hD⟩ := cl_known htg
  obtain ⟨c0, a0, n0⟩ := ar_known (htg _ ac_w.1)
  obtain ⟨c1, a1, n1⟩ := ar_known (htg _ ac_w.2.1)
  obtain ⟨c2, a2, n2⟩ := ar_known (htg _ ac_w.2.2)
  obtain ⟨c3, a3, n3⟩ := ao_known (C := "java/lang/String") (hm 1413 (by decide +kernel))
  have hA : ∀ a : Nat, a < s.heap.size → ¬ (fun q : Nat => q ∈ ([] : List Nat) ∨ s.heap.size ≤ q) a := fun a h z => by
    rcases z with z | z
    · cases z
    · exact absurd h (Nat.not_lt.mpr z)
  have hfc : ∀ q ∈ strT, ∃ c, s.vm.findClass q.1 = some c := fun q hq => by
    rcases st_own q hq with h | h | h
    · rw [h]; exact ⟨_, (hD 10 _ rfl).2.1⟩
    · rw [h]; exact ⟨_, (hD 6 _ rfl).2.1⟩
    · rw [h]; exact ⟨_, (hD 11 _ rfl).2.1⟩
  have hsr : ∀ q ∈ strT, (Cond.stringRef q.1 q.2.1 q.2.2.1).before #[Value.ref b] s = true := fun q hq => by
    obtain ⟨j, hj⟩ := List.getElem?_of_mem hq
    have hj48 : j < 48 := (List.getElem?_eq_some_iff.mp hj).1
    have h1 := hm _ (st_in j hj48)
    rw [show strT.getD j ("", 0, "", 0) = q by rw [List.getD_eq_getElem?_getD, hj]; rfl] at h1
    exact h1
  have hev : ∀ q ∈ strT, ∃ a : Nat, (Term.string q.1 q.2.1).eval #[] s none [] s = some (.ref a) ∧ (Term.string q.1 q.2.1).eval #[Value.ref b] s none [] s = some (.ref a) := fun q hq => by
    obtain ⟨c, hc⟩ := hfc q hq
    obtain ⟨k, cf, i, a, -, -, -, -, -, h9⟩ := Cond.stringRef_spec hc (hsr q hq)
    exact ⟨a, h9, h9⟩
  have hK0 : ∀ i : Nat, ∃ a : Nat, ∀ q ∈ strT, q.2.2.2 = i → (Term.string q.1 q.2.1).eval #[] s none [] s = some (.ref a) ∧ (Term.string q.1 q.2.1).eval #[Value.ref b] s none [] s = some (.ref a) := fun i => by
    by_cases h : ∃ q ∈ strT, q.2.2.2 = i
    · obtain ⟨q, hq, hi⟩ := h
      obtain ⟨a, ha⟩ := hev q hq
      exact ⟨a, fun r hr hri => by rw [← st_uni q hq r hr (hi.trans hri.symm)]; exact ha⟩
    · exact ⟨0, fun q hq hi => absurd ⟨q, hq, hi⟩ h⟩
  obtain ⟨aK, hK⟩ := Classical.axiomOfChoice hK0
  have hV0 : ∀ i : Nat, ∃ v : Nat, i < 32 → va_O "java/lang/String" (aK i) (fun q : Nat => q ∈ ([] : List Nat) ∨ s.heap.size ≤ q) s s.heap ∧ va_OF "java/lang/String" "coder" "B" (.int 0) (aK i) (fun q : Nat => q ∈ ([] : List Nat) ∨ s.heap.size ≤ q) s s.heap ∧ va_OF "java/lang/String" "value" "[B" (.ref v) (aK i) (fun q : Nat => q ∈ ([] : List Nat) ∨ s.heap.size ≤ q) s s.heap ∧ va_T .byte v (sLen.getD i 0) (fun j => .int ((sByt.getD i []).getD j 0)) (fun q : Nat => q ∈ ([] : List Nat) ∨ s.heap.size ≤ q) s s.heap := fun i => by
    by_cases hi : i < 32
    · obtain ⟨q, hq, hqi, htm⟩ := st_tm i hi
      obtain ⟨k1, v1, hS1, he1⟩ := vk_Sof (N := 1) (tm := fun _ => tmS i) (len := [sLen.getD i 0]) (byt := [sByt.getD i []]) (A := fun q : Nat => q ∈ ([] : List Nat) ∨ s.heap.size ≤ q) (args := #[Value.ref b]) (s := s)
        (fun j hj => by obtain rfl : j = 0 := by omega
                        exact Nat.lt_of_lt_of_le ((by decide +kernel : ∀ i, i < 32 → sLen.getD i 0 < 100) i hi) (by decide))
        (fun j hj => hg _ (gv_ex i hi)) (fun j hj => hg _ (gv_co i hi)) (fun j hj => hg _ (gv_ar i hi))
        (fun j hj => by obtain rfl : j = 0 := by omega
                        exact hg _ (gv_le i hi))
        (fun j hj => by obtain rfl : j = 0 := by omega
                        exact fun k hk => hg _ (gv_el i hi k hk))
        (fun j k hj hk hne => absurd (show j = k by omega) hne) hA
      have e1 := he1 0 (by decide)
      rw [htm] at e1
      have e2 : k1 0 = aK i := by
        have e3 := e1.symm.trans (hK i q hq hqi).2
        injection e3 with e4
        injection e4
      have h9 := hS1.1 0 (by decide)
      rw [e2] at h9
      exact ⟨v1 0, fun _ => h9⟩
    · exact ⟨0, fun h => absurd h hi⟩
  obtain ⟨aV, hV⟩ := Classical.axiomOfChoice hV0
  refine ⟨D, fun k => match k with | 0 => c0 | 1 => c1 | 2 => c2 | _ => c3, aK, aV, fun l lay => ⟨⟨hD, fun k q hq => ?_⟩, ⟨hV, fun q hq => vk_R.of (A := #[Value.ref b]) (hsr q hq) (hK _ q hq rfl).2, vx_Zqof (hm 934 (by decide +kernel)) (hm 103 (by decide +kernel)) (hg _ gv_st.1) hA, vx_Zqof (hm 936 (by decide +kernel)) (hm 103 (by decide +kernel)) (hg _ gv_st.2.1) hA, fun q hq => ?_, va_Zof (hm 1009 (by decide +kernel)) (hm 107 (by decide +kernel)) (va_eqt (hg _ gv_st.2.2.1)) hA, va_Zqof (hm 1025 (by decide +kernel)) (hm 109 (by decide +kernel)) (hg _ gv_st.2.2.2.1) hA, ⟨fun q hq => ?_, fun q hq => ?_, va_Nc.of (hg _ gv_st.2.2.2.2)⟩⟩, va_AO.of (hm 1413 (by decide +kernel))⟩⟩
  · match k, hq with
    | 0, hq => cases hq; exact ⟨a0, n0⟩
    | 1, hq => cases hq; exact ⟨a1, n1⟩
    | 2, hq => cases hq; exact ⟨a2, n2⟩
    | 3, hq => cases hq; exact ⟨a3, n3⟩
    | k + 4, hq => simp [gT] at hq
  · obtain ⟨j, hj⟩ := List.getElem?_of_mem hq
    have h1 := hm _ (nx_in j (List.getElem?_eq_some_iff.mp hj).1)
    rw [show nestT.getD j ("", 0, ⟨"", "", ""⟩, "") = q by rw [List.getD_eq_getElem?_getD, hj]; rfl] at h1
    exact va_Nw.of rfl h1
  · simp only [exC, List.mem_cons, List.not_mem_nil, or_false] at hq
    rcases hq with rfl | rfl
    · exact va_Nw.of rfl (hm 909 (by decide +kernel))
    · exact va_Nw.of rfl (hm 1144 (by decide +kernel))
  · simp only [exDc, List.mem_cons, List.not_mem_nil, or_false] at hq
    rcases hq with rfl | rfl | rfl
    · exact va_Nw.of rfl (hm 911 (by decide +kernel))
    · exact va_Nw.of rfl (hm 913 (by decide +kernel))
    · exact va_Nw.of rfl (hm 915 (by decide +kernel))
