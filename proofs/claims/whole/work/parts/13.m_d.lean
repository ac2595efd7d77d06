theorem fv_10_0 {M : Mem} {a : Nat} : fvl M a 10 0 = .ref (a + 1) := rfl
theorem fv_6_7 {M : Mem} {a : Nat} : fvl M a 6 7 = .int (M.1 a 7) := rfl
theorem fv_10_2 {M : Mem} {a : Nat} : fvl M a 10 2 = .ref (a + 19) := rfl
theorem fv_10_1 {M : Mem} {a : Nat} : fvl M a 10 1 = .ref (M.2.2 0) := rfl
theorem fv_10_5 {M : Mem} {a : Nat} : fvl M a 10 5 = .ref (a + 79) := rfl
theorem fv_10_3 {M : Mem} {a : Nat} : fvl M a 10 3 = .ref (a + 49) := rfl
theorem fv_10_4 {M : Mem} {a : Nat} : fvl M a 10 4 = .int (M.1 a 4) := rfl
theorem lf_RX10_10 : FL RX10 10 10 0 := ⟨_, _, _, rfl, rfl, by decide, gin 617 (by decide +kernel) rfl⟩
theorem lf_RX10_44 : FL RX10 44 6 1 := ⟨_, _, _, rfl, rfl, by decide, gin 226 (by decide +kernel) rfl⟩
theorem lm_X6_addBytes : lkM yX6_addBytes cX6_addBytes 3 none 1 := ⟨gin 643 (by decide +kernel) rfl, gin 91 (by decide +kernel) rfl, by decide +kernel⟩
theorem lv_m_X6_addBytes : Cond.instanceMethod yX6_addBytes ∈ gw ∧ Cond.selects (yX6_addBytes).cls yX6_addBytes yX6_addBytes ∈ gw := ⟨gin 641 (by decide +kernel) rfl, gin 642 (by decide +kernel) rfl⟩
theorem ll_RX10_48 : Cond.methodLink RX10 48 yX6_addBytes ∈ gw := gin 640 (by decide +kernel) rfl
theorem lf_RX10_74 : FL RX10 74 6 7 := ⟨_, _, _, rfl, rfl, by decide, gin 234 (by decide +kernel) rfl⟩
theorem lf_RX10_26 : FL RX10 26 10 2 := ⟨_, _, _, rfl, rfl, by decide, gin 619 (by decide +kernel) rfl⟩
theorem lm_X8_refuse : lkM yX8_refuse cX8_refuse 2 none 1 := ⟨gin 656 (by decide +kernel) rfl, gin 94 (by decide +kernel) rfl, by decide +kernel⟩
theorem lv_m_X8_refuse : Cond.instanceMethod yX8_refuse ∈ gw ∧ Cond.selects (yX8_refuse).cls yX8_refuse yX8_refuse ∈ gw := ⟨gin 654 (by decide +kernel) rfl, gin 655 (by decide +kernel) rfl⟩
theorem ll_RX10_63 : Cond.methodLink RX10 63 yX8_refuse ∈ gw := gin 653 (by decide +kernel) rfl
theorem lf_RX10_77 : FL RX10 77 8 0 := ⟨_, _, _, rfl, rfl, by decide, gin 510 (by decide +kernel) rfl⟩
theorem lf_RX10_81 : FL RX10 81 9 0 := ⟨_, _, _, rfl, rfl, by decide, gin 495 (by decide +kernel) rfl⟩
theorem lf_RX10_19 : FL RX10 19 10 1 := ⟨_, _, _, rfl, rfl, by decide, gin 618 (by decide +kernel) rfl⟩
theorem lm_X8_act : lkM yX8_act cX8_act 4 none 3 := ⟨gin 664 (by decide +kernel) rfl, gin 94 (by decide +kernel) rfl, by decide +kernel⟩
theorem lv_m_X8_act : Cond.instanceMethod yX8_act ∈ gw ∧ Cond.selects (yX8_act).cls yX8_act yX8_act ∈ gw := ⟨gin 662 (by decide +kernel) rfl, gin 663 (by decide +kernel) rfl⟩
theorem ll_RX10_270 : Cond.methodLink RX10 270 yX8_act ∈ gw := gin 661 (by decide +kernel) rfl
theorem lf_RX10_86 : FL RX10 86 9 1 := ⟨_, _, _, rfl, rfl, by decide, gin 497 (by decide +kernel) rfl⟩
theorem lf_RX10_205 : FL RX10 205 1 6 := ⟨_, _, _, rfl, rfl, by decide, gin 296 (by decide +kernel) rfl⟩
theorem lf_RX10_208 : FL RX10 208 1 7 := ⟨_, _, _, rfl, rfl, by decide, gin 300 (by decide +kernel) rfl⟩
theorem lf_RX10_104 : FL RX10 104 9 2 := ⟨_, _, _, rfl, rfl, by decide, gin 501 (by decide +kernel) rfl⟩
theorem lf_RX10_181 : FL RX10 181 5 1 := ⟨_, _, _, rfl, rfl, by decide, gin 441 (by decide +kernel) rfl⟩
theorem lf_RX10_202 : FL RX10 202 5 2 := ⟨_, _, _, rfl, rfl, by decide, gin 445 (by decide +kernel) rfl⟩
theorem lf_RX10_193 : FL RX10 193 1 0 := ⟨_, _, _, rfl, rfl, by decide, gin 283 (by decide +kernel) rfl⟩
theorem lm_X8_takeBack : lkM yX8_takeBack cX8_takeBack 3 (some .int) 1 := ⟨gin 829 (by decide +kernel) rfl, gin 94 (by decide +kernel) rfl, by decide +kernel⟩
theorem lv_m_X8_takeBack : Cond.instanceMethod yX8_takeBack ∈ gw ∧ Cond.selects (yX8_takeBack).cls yX8_takeBack yX8_takeBack ∈ gw := ⟨gin 827 (by decide +kernel) rfl, gin 828 (by decide +kernel) rfl⟩
theorem ll_RX10_283 : Cond.methodLink RX10 283 yX8_takeBack ∈ gw := gin 826 (by decide +kernel) rfl
theorem lf_RX10_36 : FL RX10 36 10 5 := ⟨_, _, _, rfl, rfl, by decide, gin 622 (by decide +kernel) rfl⟩
theorem lm_X2_firstSettled : lkM yX2_firstSettled cX2_firstSettled 7 (some .int) 2 := ⟨gin 863 (by decide +kernel) rfl, gin 100 (by decide +kernel) rfl, by decide +kernel⟩
theorem lv_m_X2_firstSettled : Cond.instanceMethod yX2_firstSettled ∈ gw ∧ Cond.selects (yX2_firstSettled).cls yX2_firstSettled yX2_firstSettled ∈ gw := ⟨gin 861 (by decide +kernel) rfl, gin 862 (by decide +kernel) rfl⟩
theorem ll_RX10_303 : Cond.methodLink RX10 303 yX2_firstSettled ∈ gw := gin 860 (by decide +kernel) rfl
theorem lf_RX10_165 : FL RX10 165 8 5 := ⟨_, _, _, rfl, rfl, by decide, gin 518 (by decide +kernel) rfl⟩
theorem lm_X8_keepNote : lkM yX8_keepNote cX8_keepNote 3 (some .int) 2 := ⟨gin 881 (by decide +kernel) rfl, gin 94 (by decide +kernel) rfl, by decide +kernel⟩
theorem lv_m_X8_keepNote : Cond.instanceMethod yX8_keepNote ∈ gw ∧ Cond.selects (yX8_keepNote).cls yX8_keepNote yX8_keepNote ∈ gw := ⟨gin 879 (by decide +kernel) rfl, gin 880 (by decide +kernel) rfl⟩
theorem ll_RX10_321 : Cond.methodLink RX10 321 yX8_keepNote ∈ gw := gin 878 (by decide +kernel) rfl
theorem lp_RX10_165 : FP RX10 165 8 5 .int := ⟨_, _, _, rfl, rfl, by decide, gin 518 (by decide +kernel) rfl, rfl, by decide +kernel⟩
theorem lf_RX10_30 : FL RX10 30 10 3 := ⟨_, _, _, rfl, rfl, by decide, gin 620 (by decide +kernel) rfl⟩
theorem lp_RX10_70 : FP RX10 70 10 4 .boolean := ⟨_, _, _, rfl, rfl, by decide, gin 621 (by decide +kernel) rfl, rfl, by decide +kernel⟩
theorem lm_X8_copyFrom : lkM yX8_copyFrom cX8_copyFrom 2 none 1 := ⟨gin 893 (by decide +kernel) rfl, gin 94 (by decide +kernel) rfl, by decide +kernel⟩
theorem lv_m_X8_copyFrom : Cond.instanceMethod yX8_copyFrom ∈ gw ∧ Cond.selects (yX8_copyFrom).cls yX8_copyFrom yX8_copyFrom ∈ gw := ⟨gin 891 (by decide +kernel) rfl, gin 892 (by decide +kernel) rfl⟩
theorem ll_RX10_352 : Cond.methodLink RX10 352 yX8_copyFrom ∈ gw := gin 890 (by decide +kernel) rfl
theorem lf_RX10_70 : FL RX10 70 10 4 := ⟨_, _, _, rfl, rfl, by decide, gin 621 (by decide +kernel) rfl⟩
def f_X10_feed (t : Nat) (x1_ : Int32) (x2_ : Int32) (x3_ : Int32) (x4_ : Int32) (x5_ : Int32) (M : Mem) : Option (Int32 × Mem) :=
  if ((M.1 (t + 1) 1) + (20 : Int32)) ≤ (700 : Int32) then (bd (f_X6_addBytes (t + 1) x1_ M) (fun _ M2 => bd (f_X6_addBytes (t + 1) x2_ M2) (fun _ M4 => bd (f_X6_addBytes (t + 1) x3_ M4) (fun _ M6 => bd (f_X6_addBytes (t + 1) x4_ M6) (fun _ M8 => bd (f_X6_addBytes (t + 1) x5_ M8) (fun _ M10 => some (M10.1 (t + 1) 1, M10))))))) else (some ((-1 : Int32), M))
set_option maxRecDepth 20000 in
theorem c_X10_feed {G : Ctx} (hW : WFG G) {t : Nat} {x1_ : Int32} {x2_ : Int32} {x3_ : Int32} {x4_ : Int32} {x5_ : Int32} {M M' : Mem} {r : Int32} (h0 : hs G t (0, 10)) (hf : f_X10_feed t x1_ x2_ x3_ x4_ x5_ M = some (r, M')) : Ct G yX10_feed cX10_feed 6 (some .int) 2 44 [.ref t, .int x1_, .int x2_, .int x3_, .int x4_, .int x5_] M (some (.int r)) M' := by
  refine ct_i hW (by decide +kernel) (Nat.le_of_ble_eq_true rfl) (fun w h hr => ?_)
  have h : Rb G cX10_feed RX10 6 2 44 w := h
  refine (?_ : E (fun q => q = (r, M')) (f_X10_feed t x1_ x2_ x3_ x4_ x5_ M) (w M 0 [(0, .ref t), (1, .int x1_), (2, .int x2_), (3, .int x3_), (4, .int x4_), (5, .int x5_)] [])) _ hf rfl
  unfold f_X10_feed
  refine E.m (h.aload_n 0 dX10_feed_0 rfl) ?_
  refine E.m (h.get h0 lf_RX10_10 dX10_feed_1 fv_10_0) ?_
  refine E.m (h.get (hW.clo 34 h0 rfl) lf_RX10_44 dX10_feed_4 fv_6_1) ?_
  refine E.m (h.bipush (v := (20 : Int32)) dX10_feed_7 (by decide)) ?_
  refine E.m (h.iadd dX10_feed_9) ?_
  refine E.m (h.sipush (v := (700 : Int32)) dX10_feed_10 (by decide)) ?_
  refine E.br (fun k1 k2 => h.icmp_le (tgt := 18) dX10_feed_13 (by decide) k1 k2) ?_ ?_
  · refine E.m (h.aload_n 0 dX10_feed_18 rfl) ?_
    refine E.m (h.get h0 lf_RX10_10 dX10_feed_19 fv_10_0) ?_
    refine E.m (h.iload_n 1 dX10_feed_22 rfl) ?_
    refine E.bnd (fun _ M2 => w M2 26 [(0, .ref t), (1, .int x1_), (2, .int x2_), (3, .int x3_), (4, .int x4_), (5, .int x5_)] []) (fun _ M2 hf k => h.callV (As := [.int x1_]) (rest := []) (c_X6_addBytes hW (hW.clo 34 h0 rfl) hf) lm_X6_addBytes lv_m_X6_addBytes ll_RX10_48 (hW.clo 34 h0 rfl) lc_6 rfl rfl (Nat.le_of_ble_eq_true rfl) (by decide) dX10_feed_23 rfl k) (fun _ M2 => ?_)
    refine E.m (h.aload_n 0 dX10_feed_26 rfl) ?_
    refine E.m (h.get h0 lf_RX10_10 dX10_feed_27 fv_10_0) ?_
    refine E.m (h.iload_n 2 dX10_feed_30 rfl) ?_
    refine E.bnd (fun _ M4 => w M4 34 [(0, .ref t), (1, .int x1_), (2, .int x2_), (3, .int x3_), (4, .int x4_), (5, .int x5_)] []) (fun _ M4 hf k => h.callV (As := [.int x2_]) (rest := []) (c_X6_addBytes hW (hW.clo 34 h0 rfl) hf) lm_X6_addBytes lv_m_X6_addBytes ll_RX10_48 (hW.clo 34 h0 rfl) lc_6 rfl rfl (Nat.le_of_ble_eq_true rfl) (by decide) dX10_feed_31 rfl k) (fun _ M4 => ?_)
    refine E.m (h.aload_n 0 dX10_feed_34 rfl) ?_
    refine E.m (h.get h0 lf_RX10_10 dX10_feed_35 fv_10_0) ?_
    refine E.m (h.iload_n 3 dX10_feed_38 rfl) ?_
    refine E.bnd (fun _ M6 => w M6 42 [(0, .ref t), (1, .int x1_), (2, .int x2_), (3, .int x3_), (4, .int x4_), (5, .int x5_)] []) (fun _ M6 hf k => h.callV (As := [.int x3_]) (rest := []) (c_X6_addBytes hW (hW.clo 34 h0 rfl) hf) lm_X6_addBytes lv_m_X6_addBytes ll_RX10_48 (hW.clo 34 h0 rfl) lc_6 rfl rfl (Nat.le_of_ble_eq_true rfl) (by decide) dX10_feed_39 rfl k) (fun _ M6 => ?_)
    refine E.m (h.aload_n 0 dX10_feed_42 rfl) ?_
    refine E.m (h.get h0 lf_RX10_10 dX10_feed_43 fv_10_0) ?_
    refine E.m (h.iload 4 dX10_feed_46 rfl) ?_
    refine E.bnd (fun _ M8 => w M8 51 [(0, .ref t), (1, .int x1_), (2, .int x2_), (3, .int x3_), (4, .int x4_), (5, .int x5_)] []) (fun _ M8 hf k => h.callV (As := [.int x4_]) (rest := []) (c_X6_addBytes hW (hW.clo 34 h0 rfl) hf) lm_X6_addBytes lv_m_X6_addBytes ll_RX10_48 (hW.clo 34 h0 rfl) lc_6 rfl rfl (Nat.le_of_ble_eq_true rfl) (by decide) dX10_feed_48 rfl k) (fun _ M8 => ?_)
    refine E.m (h.aload_n 0 dX10_feed_51 rfl) ?_
    refine E.m (h.get h0 lf_RX10_10 dX10_feed_52 fv_10_0) ?_
    refine E.m (h.iload 5 dX10_feed_55 rfl) ?_
    refine E.bnd (fun _ M10 => w M10 60 [(0, .ref t), (1, .int x1_), (2, .int x2_), (3, .int x3_), (4, .int x4_), (5, .int x5_)] []) (fun _ M10 hf k => h.callV (As := [.int x5_]) (rest := []) (c_X6_addBytes hW (hW.clo 34 h0 rfl) hf) lm_X6_addBytes lv_m_X6_addBytes ll_RX10_48 (hW.clo 34 h0 rfl) lc_6 rfl rfl (Nat.le_of_ble_eq_true rfl) (by decide) dX10_feed_57 rfl k) (fun _ M10 => ?_)
    refine E.m (h.aload_n 0 dX10_feed_60 rfl) ?_
    refine E.m (h.get h0 lf_RX10_10 dX10_feed_61 fv_10_0) ?_
    refine E.m (h.get (hW.clo 34 h0 rfl) lf_RX10_44 dX10_feed_64 fv_6_1) ?_
    exact E.some (ret_i hr rfl dX10_feed_67)
  · refine E.m (h.iconst (v := (-1 : Int32)) dX10_feed_16 (by decide)) ?_
    exact E.some (ret_i hr rfl dX10_feed_17)
def f_X10_fault (t : Nat) (M : Mem) : Option (Int32 × Mem) :=
  some (M.1 (t + 1) 7, M)
set_option maxRecDepth 20000 in
theorem c_X10_fault {G : Ctx} (hW : WFG G) {t : Nat} {M M' : Mem} {r : Int32} (h0 : hs G t (0, 10)) (hf : f_X10_fault t M = some (r, M')) : Ct G yX10_fault cX10_fault 1 (some .int) 0 0 [.ref t] M (some (.int r)) M' := by
  refine ct_i hW (by decide +kernel) (Nat.le_of_ble_eq_true rfl) (fun w h hr => ?_)
  have h : Rb G cX10_fault RX10 1 0 0 w := h
  refine (?_ : E (fun q => q = (r, M')) (f_X10_fault t M) (w M 0 [(0, .ref t)] [])) _ hf rfl
  unfold f_X10_fault
  refine E.m (h.aload_n 0 dX10_fault_0 rfl) ?_
  refine E.m (h.get h0 lf_RX10_10 dX10_fault_1 fv_10_0) ?_
  refine E.m (h.get (hW.clo 34 h0 rfl) lf_RX10_74 dX10_fault_4 fv_6_7) ?_
  exact E.some (ret_i hr rfl dX10_fault_7)
def f_X10_steps (t : Nat) (x1_ : Int32) (M : Mem) : Option (Int32 × Mem) :=
  jn0 (fun _ => bd (f_X8_refuse (t + 19) (1 : Int32) M) (fun _ M2 => some ((-1 : Int32), M2))) (fun J29 => if x1_ < (1 : Int32) then (J29 ()) else (if (50 : Int32) < x1_ then (J29 ()) else (if ((M.1 (t + 19 + 1) 0) + x1_) ≤ (20000 : Int32) then (gdp (M.2.2 0 = t + 3 ∨ M.2.2 0 = t + 11) (bd (f_X8_act (t + 19) (M.2.2 0) (0 : Int32) x1_ M) (fun _ M5 => some (M5.1 (t + 19 + 1) 0, M5)))) else (J29 ()))))
set_option maxRecDepth 20000 in
theorem c_X10_steps {G : Ctx} (hW : WFG G) {t : Nat} {x1_ : Int32} {M M' : Mem} {r : Int32} (h0 : hs G t (0, 10)) (hf : f_X10_steps t x1_ M = some (r, M')) : Ct G yX10_steps cX10_steps 2 (some .int) 7 166 [.ref t, .int x1_] M (some (.int r)) M' := by
  refine ct_i hW (by decide +kernel) (Nat.le_of_ble_eq_true rfl) (fun w h hr => ?_)
  have h : Rb G cX10_steps RX10 2 7 166 w := h
  refine (?_ : E (fun q => q = (r, M')) (f_X10_steps t x1_ M) (w M 0 [(0, .ref t), (1, .int x1_)] [])) _ hf rfl
  unfold f_X10_steps
  refine E.m (h.iload_n 1 dX10_steps_0 rfl) ?_
  refine E.m (h.iconst (v := (1 : Int32)) dX10_steps_1 (by decide)) ?_
  refine E.join0 (fun _ => w M 29 [(0, .ref t), (1, .int x1_)] []) (fun _ => ?_) (fun J29 hJ29 => ?_)
  · refine E.m (h.aload_n 0 dX10_steps_29 rfl) ?_
    refine E.m (h.get h0 lf_RX10_26 dX10_steps_30 fv_10_2) ?_
    refine E.m (h.iconst (v := (1 : Int32)) dX10_steps_33 (by decide)) ?_
    refine E.bnd (fun _ M2 => w M2 37 [(0, .ref t), (1, .int x1_)] []) (fun _ M2 hf k => h.callV (As := [.int (1 : Int32)]) (rest := []) (c_X8_refuse hW (hW.clo 35 h0 rfl) hf) lm_X8_refuse lv_m_X8_refuse ll_RX10_63 (hW.clo 35 h0 rfl) lc_8 rfl rfl (Nat.le_of_ble_eq_true rfl) (by decide) dX10_steps_34 rfl k) (fun _ M2 => ?_)
    refine E.m (h.iconst (v := (-1 : Int32)) dX10_steps_37 (by decide)) ?_
    exact E.some (ret_i hr rfl dX10_steps_38)
  refine E.br (fun k1 k2 => h.icmp_lt (tgt := 29) dX10_steps_2 (by decide) k1 k2) ?_ ?_
  · exact hJ29 ()
  · refine E.m (h.iload_n 1 dX10_steps_5 rfl) ?_
    refine E.m (h.bipush (v := (50 : Int32)) dX10_steps_6 (by decide)) ?_
    refine E.br (fun k1 k2 => h.icmp_gt (tgt := 29) dX10_steps_8 (by decide) k1 k2) ?_ ?_
    · exact hJ29 ()
    · refine E.m (h.aload_n 0 dX10_steps_11 rfl) ?_
      refine E.m (h.get h0 lf_RX10_26 dX10_steps_12 fv_10_2) ?_
      refine E.m (h.get (hW.clo 35 h0 rfl) lf_RX10_77 dX10_steps_15 fv_8_0) ?_
      refine E.m (h.get (hW.clo 25 (hW.clo 35 h0 rfl) rfl) lf_RX10_81 dX10_steps_18 fv_9_0) ?_
      refine E.m (h.iload_n 1 dX10_steps_21 rfl) ?_
      refine E.m (h.iadd dX10_steps_22) ?_
      refine E.m (h.sipush (v := (20000 : Int32)) dX10_steps_23 (by decide)) ?_
      refine E.br (fun k1 k2 => h.icmp_le (tgt := 39) dX10_steps_26 (by decide) k1 k2) ?_ ?_
      · refine E.m (h.aload_n 0 dX10_steps_39 rfl) ?_
        refine E.m (h.get h0 lf_RX10_26 dX10_steps_40 fv_10_2) ?_
        refine E.m (h.aload_n 0 dX10_steps_43 rfl) ?_
        refine E.gd (fun _ k => h.get h0 lf_RX10_19 dX10_steps_44 fv_10_1 k) (fun hd3 => ?_)
        refine E.m (h.iconst (v := (0 : Int32)) dX10_steps_47 (by decide)) ?_
        refine E.m (h.iload_n 1 dX10_steps_48 rfl) ?_
        refine E.bnd (fun _ M5 => w M5 52 [(0, .ref t), (1, .int x1_)] []) (fun _ M5 hf k => h.callV (As := [.ref (M.2.2 0), .int (0 : Int32), .int x1_]) (rest := []) (c_X8_act hW (hW.clo 35 h0 rfl) (hs2 hd3 (hW.clo 38 h0 rfl) (hW.clo 39 h0 rfl)) hf) lm_X8_act lv_m_X8_act ll_RX10_270 (hW.clo 35 h0 rfl) lc_8 rfl rfl (Nat.le_of_ble_eq_true rfl) (by decide) dX10_steps_49 rfl k) (fun _ M5 => ?_)
        refine E.m (h.aload_n 0 dX10_steps_52 rfl) ?_
        refine E.m (h.get h0 lf_RX10_26 dX10_steps_53 fv_10_2) ?_
        refine E.m (h.get (hW.clo 35 h0 rfl) lf_RX10_77 dX10_steps_56 fv_8_0) ?_
        refine E.m (h.get (hW.clo 25 (hW.clo 35 h0 rfl) rfl) lf_RX10_81 dX10_steps_59 fv_9_0) ?_
        exact E.some (ret_i hr rfl dX10_steps_62)
      · exact hJ29 ()
def f_X10_lose (t : Nat) (x1_ : Int32) (M : Mem) : Option (Int32 × Mem) :=
  nm (M.1 (t + 19 + 1 + 1) 6) (fun y1 => jn0 (fun _ => bd (f_X8_refuse (t + 19) (1 : Int32) M) (fun _ M3 => some ((-1 : Int32), M3))) (fun J29 => if x1_ < 0 then (J29 ()) else (if (20 : Int32) < x1_ then (J29 ()) else (if x1_ = y1 then (J29 ()) else (gdp (M.2.2 0 = t + 3 ∨ M.2.2 0 = t + 11) (bd (f_X8_act (t + 19) (M.2.2 0) (1 : Int32) x1_ M) (fun _ M6 => some (y1, M6))))))))
set_option maxRecDepth 20000 in
theorem c_X10_lose {G : Ctx} (hW : WFG G) {t : Nat} {x1_ : Int32} {M M' : Mem} {r : Int32} (h0 : hs G t (0, 10)) (hf : f_X10_lose t x1_ M = some (r, M')) : Ct G yX10_lose cX10_lose 3 (some .int) 7 166 [.ref t, .int x1_] M (some (.int r)) M' := by
  refine ct_i hW (by decide +kernel) (Nat.le_of_ble_eq_true rfl) (fun w h hr => ?_)
  have h : Rb G cX10_lose RX10 3 7 166 w := h
  refine (?_ : E (fun q => q = (r, M')) (f_X10_lose t x1_ M) (w M 0 [(0, .ref t), (1, .int x1_)] [])) _ hf rfl
  unfold f_X10_lose
  refine E.m (h.aload_n 0 dX10_lose_0 rfl) ?_
  refine E.m (h.get h0 lf_RX10_26 dX10_lose_1 fv_10_2) ?_
  refine E.m (h.get (hW.clo 35 h0 rfl) lf_RX10_77 dX10_lose_4 fv_8_0) ?_
  refine E.m (h.get (hW.clo 25 (hW.clo 35 h0 rfl) rfl) lf_RX10_86 dX10_lose_7 fv_9_1) ?_
  refine E.m (h.get (hW.clo 32 (hW.clo 25 (hW.clo 35 h0 rfl) rfl) rfl) lf_RX10_205 dX10_lose_10 fv_1_6) ?_
  refine E.m (h.istore_n dX10_lose_13 (by decide) rfl) ?_
  refine E.nmL (fun y1 => ?_)
  refine E.m (h.iload_n 2 dX10_lose_14 rfl) ?_
  refine E.join0 (fun _ => w M 29 [(0, .ref t), (1, .int x1_), (2, .int y1)] []) (fun _ => ?_) (fun J29 hJ29 => ?_)
  · refine E.m (h.aload_n 0 dX10_lose_29 rfl) ?_
    refine E.m (h.get h0 lf_RX10_26 dX10_lose_30 fv_10_2) ?_
    refine E.m (h.iconst (v := (1 : Int32)) dX10_lose_33 (by decide)) ?_
    refine E.bnd (fun _ M3 => w M3 37 [(0, .ref t), (1, .int x1_), (2, .int y1)] []) (fun _ M3 hf k => h.callV (As := [.int (1 : Int32)]) (rest := []) (c_X8_refuse hW (hW.clo 35 h0 rfl) hf) lm_X8_refuse lv_m_X8_refuse ll_RX10_63 (hW.clo 35 h0 rfl) lc_8 rfl rfl (Nat.le_of_ble_eq_true rfl) (by decide) dX10_lose_34 rfl k) (fun _ M3 => ?_)
    refine E.m (h.iconst (v := (-1 : Int32)) dX10_lose_37 (by decide)) ?_
    exact E.some (ret_i hr rfl dX10_lose_38)
  refine E.br (fun k1 k2 => h.if_lt (tgt := 29) dX10_lose_15 (by decide) k1 k2) ?_ ?_
  · refine E.m (h.sub [1, 2, 0] rfl) ?_
    exact hJ29 ()
  · refine E.m (h.iload_n 2 dX10_lose_18 rfl) ?_
    refine E.m (h.bipush (v := (20 : Int32)) dX10_lose_19 (by decide)) ?_
    refine E.br (fun k1 k2 => h.icmp_gt (tgt := 29) dX10_lose_21 (by decide) k1 k2) ?_ ?_
    · refine E.m (h.sub [1, 2, 0] rfl) ?_
      exact hJ29 ()
    · refine E.m (h.iload_n 2 dX10_lose_24 rfl) ?_
      refine E.m (h.iload_n 0 dX10_lose_25 rfl) ?_
      refine E.br (fun k1 k2 => h.icmp_ne (tgt := 39) dX10_lose_26 (by decide) k2 k1) ?_ ?_
      · refine E.m (h.sub [1, 2, 0] rfl) ?_
        exact hJ29 ()
      · refine E.m (h.aload_n 1 dX10_lose_39 rfl) ?_
        refine E.m (h.get h0 lf_RX10_26 dX10_lose_40 fv_10_2) ?_
        refine E.m (h.aload_n 1 dX10_lose_43 rfl) ?_
        refine E.gd (fun _ k => h.get h0 lf_RX10_19 dX10_lose_44 fv_10_1 k) (fun hd4 => ?_)
        refine E.m (h.iconst (v := (1 : Int32)) dX10_lose_47 (by decide)) ?_
        refine E.m (h.iload_n 2 dX10_lose_48 rfl) ?_
        refine E.bnd (fun _ M6 => w M6 52 [(2, .int y1), (0, .ref t), (1, .int x1_)] []) (fun _ M6 hf k => h.callV (As := [.ref (M.2.2 0), .int (1 : Int32), .int x1_]) (rest := []) (c_X8_act hW (hW.clo 35 h0 rfl) (hs2 hd4 (hW.clo 38 h0 rfl) (hW.clo 39 h0 rfl)) hf) lm_X8_act lv_m_X8_act ll_RX10_270 (hW.clo 35 h0 rfl) lc_8 rfl rfl (Nat.le_of_ble_eq_true rfl) (by decide) dX10_lose_49 rfl k) (fun _ M6 => ?_)
        refine E.m (h.iload_n 0 dX10_lose_52 rfl) ?_
        exact E.some (ret_i hr rfl dX10_lose_53)
def f_X10_stall (t : Nat) (x1_ : Int32) (M : Mem) : Option (Int32 × Mem) :=
  nm (M.1 (t + 19 + 1 + 1) 7) (fun y1 => jn0 (fun _ => bd (f_X8_refuse (t + 19) (1 : Int32) M) (fun _ M3 => some ((-1 : Int32), M3))) (fun J29 => if x1_ < 0 then (J29 ()) else (if (30 : Int32) < x1_ then (J29 ()) else (if x1_ = y1 then (J29 ()) else (gdp (M.2.2 0 = t + 3 ∨ M.2.2 0 = t + 11) (bd (f_X8_act (t + 19) (M.2.2 0) (2 : Int32) x1_ M) (fun _ M6 => some (y1, M6))))))))
set_option maxRecDepth 20000 in
theorem c_X10_stall {G : Ctx} (hW : WFG G) {t : Nat} {x1_ : Int32} {M M' : Mem} {r : Int32} (h0 : hs G t (0, 10)) (hf : f_X10_stall t x1_ M = some (r, M')) : Ct G yX10_stall cX10_stall 3 (some .int) 7 166 [.ref t, .int x1_] M (some (.int r)) M' := by
  refine ct_i hW (by decide +kernel) (Nat.le_of_ble_eq_true rfl) (fun w h hr => ?_)
  have h : Rb G cX10_stall RX10 3 7 166 w := h
  refine (?_ : E (fun q => q = (r, M')) (f_X10_stall t x1_ M) (w M 0 [(0, .ref t), (1, .int x1_)] [])) _ hf rfl
  unfold f_X10_stall
  refine E.m (h.aload_n 0 dX10_stall_0 rfl) ?_
  refine E.m (h.get h0 lf_RX10_26 dX10_stall_1 fv_10_2) ?_
  refine E.m (h.get (hW.clo 35 h0 rfl) lf_RX10_77 dX10_stall_4 fv_8_0) ?_
  refine E.m (h.get (hW.clo 25 (hW.clo 35 h0 rfl) rfl) lf_RX10_86 dX10_stall_7 fv_9_1) ?_
  refine E.m (h.get (hW.clo 32 (hW.clo 25 (hW.clo 35 h0 rfl) rfl) rfl) lf_RX10_208 dX10_stall_10 fv_1_7) ?_
  refine E.m (h.istore_n dX10_stall_13 (by decide) rfl) ?_
  refine E.nmL (fun y1 => ?_)
  refine E.m (h.iload_n 2 dX10_stall_14 rfl) ?_
  refine E.join0 (fun _ => w M 29 [(0, .ref t), (1, .int x1_), (2, .int y1)] []) (fun _ => ?_) (fun J29 hJ29 => ?_)
  · refine E.m (h.aload_n 0 dX10_stall_29 rfl) ?_
    refine E.m (h.get h0 lf_RX10_26 dX10_stall_30 fv_10_2) ?_
    refine E.m (h.iconst (v := (1 : Int32)) dX10_stall_33 (by decide)) ?_
    refine E.bnd (fun _ M3 => w M3 37 [(0, .ref t), (1, .int x1_), (2, .int y1)] []) (fun _ M3 hf k => h.callV (As := [.int (1 : Int32)]) (rest := []) (c_X8_refuse hW (hW.clo 35 h0 rfl) hf) lm_X8_refuse lv_m_X8_refuse ll_RX10_63 (hW.clo 35 h0 rfl) lc_8 rfl rfl (Nat.le_of_ble_eq_true rfl) (by decide) dX10_stall_34 rfl k) (fun _ M3 => ?_)
    refine E.m (h.iconst (v := (-1 : Int32)) dX10_stall_37 (by decide)) ?_
    exact E.some (ret_i hr rfl dX10_stall_38)
  refine E.br (fun k1 k2 => h.if_lt (tgt := 29) dX10_stall_15 (by decide) k1 k2) ?_ ?_
  · refine E.m (h.sub [1, 2, 0] rfl) ?_
    exact hJ29 ()
  · refine E.m (h.iload_n 2 dX10_stall_18 rfl) ?_
    refine E.m (h.bipush (v := (30 : Int32)) dX10_stall_19 (by decide)) ?_
    refine E.br (fun k1 k2 => h.icmp_gt (tgt := 29) dX10_stall_21 (by decide) k1 k2) ?_ ?_
    · refine E.m (h.sub [1, 2, 0] rfl) ?_
      exact hJ29 ()
    · refine E.m (h.iload_n 2 dX10_stall_24 rfl) ?_
      refine E.m (h.iload_n 0 dX10_stall_25 rfl) ?_
      refine E.br (fun k1 k2 => h.icmp_ne (tgt := 39) dX10_stall_26 (by decide) k2 k1) ?_ ?_
      · refine E.m (h.sub [1, 2, 0] rfl) ?_
        exact hJ29 ()
      · refine E.m (h.aload_n 1 dX10_stall_39 rfl) ?_
        refine E.m (h.get h0 lf_RX10_26 dX10_stall_40 fv_10_2) ?_
        refine E.m (h.aload_n 1 dX10_stall_43 rfl) ?_
        refine E.gd (fun _ k => h.get h0 lf_RX10_19 dX10_stall_44 fv_10_1 k) (fun hd4 => ?_)
        refine E.m (h.iconst (v := (2 : Int32)) dX10_stall_47 (by decide)) ?_
        refine E.m (h.iload_n 2 dX10_stall_48 rfl) ?_
        refine E.bnd (fun _ M6 => w M6 52 [(2, .int y1), (0, .ref t), (1, .int x1_)] []) (fun _ M6 hf k => h.callV (As := [.ref (M.2.2 0), .int (2 : Int32), .int x1_]) (rest := []) (c_X8_act hW (hW.clo 35 h0 rfl) (hs2 hd4 (hW.clo 38 h0 rfl) (hW.clo 39 h0 rfl)) hf) lm_X8_act lv_m_X8_act ll_RX10_270 (hW.clo 35 h0 rfl) lc_8 rfl rfl (Nat.le_of_ble_eq_true rfl) (by decide) dX10_stall_49 rfl k) (fun _ M6 => ?_)
        refine E.m (h.iload_n 0 dX10_stall_52 rfl) ?_
        exact E.some (ret_i hr rfl dX10_stall_53)
def f_X10_turnable (t : Nat) (x1_ : Int32) (M : Mem) : Option (Int32 × Mem) :=
  if x1_ = 0 then (some (M.1 (t + 19 + 1 + 1) 0, M)) else (jn1 (fun z1 => some (z1, M)) (fun J52 => if x1_ = (1 : Int32) then (J52 (M.1 (t + 19 + 1 + 5) 2)) else (J52 (M.1 (t + 19 + 1 + 5) 1))))
set_option maxRecDepth 20000 in
theorem c_X10_turnable {G : Ctx} (hW : WFG G) {t : Nat} {x1_ : Int32} {M M' : Mem} {r : Int32} (h0 : hs G t (0, 10)) (hf : f_X10_turnable t x1_ M = some (r, M')) : Ct G yX10_turnable cX10_turnable 2 (some .int) 0 0 [.ref t, .int x1_] M (some (.int r)) M' := by
  refine ct_i hW (by decide +kernel) (Nat.le_of_ble_eq_true rfl) (fun w h hr => ?_)
  have h : Rb G cX10_turnable RX10 2 0 0 w := h
  refine (?_ : E (fun q => q = (r, M')) (f_X10_turnable t x1_ M) (w M 0 [(0, .ref t), (1, .int x1_)] [])) _ hf rfl
  unfold f_X10_turnable
  refine E.m (h.iload_n 1 dX10_turnable_0 rfl) ?_
  refine E.br (fun k1 k2 => h.if_ne (tgt := 18) dX10_turnable_1 (by decide) k2 k1) ?_ ?_
  · refine E.m (h.aload_n 0 dX10_turnable_4 rfl) ?_
    refine E.m (h.get h0 lf_RX10_26 dX10_turnable_5 fv_10_2) ?_
    refine E.m (h.get (hW.clo 35 h0 rfl) lf_RX10_77 dX10_turnable_8 fv_8_0) ?_
    refine E.m (h.get (hW.clo 25 (hW.clo 35 h0 rfl) rfl) lf_RX10_86 dX10_turnable_11 fv_9_1) ?_
    refine E.m (h.get (hW.clo 32 (hW.clo 25 (hW.clo 35 h0 rfl) rfl) rfl) lf_RX10_193 dX10_turnable_14 fv_1_0) ?_
    exact E.some (ret_i hr rfl dX10_turnable_17)
  · refine E.m (h.iload_n 1 dX10_turnable_18 rfl) ?_
    refine E.m (h.iconst (v := (1 : Int32)) dX10_turnable_19 (by decide)) ?_
    refine E.join1 (fun z1 => w M 52 [(0, .ref t), (1, .int x1_)] [.int z1]) (fun z1 => ?_) (fun J52 hJ52 => ?_)
    · exact E.some (ret_i hr rfl dX10_turnable_52)
    refine E.br (fun k1 k2 => h.icmp_ne (tgt := 39) dX10_turnable_20 (by decide) k2 k1) ?_ ?_
    · refine E.m (h.aload_n 0 dX10_turnable_23 rfl) ?_
      refine E.m (h.get h0 lf_RX10_26 dX10_turnable_24 fv_10_2) ?_
      refine E.m (h.get (hW.clo 35 h0 rfl) lf_RX10_77 dX10_turnable_27 fv_8_0) ?_
      refine E.m (h.get (hW.clo 25 (hW.clo 35 h0 rfl) rfl) lf_RX10_104 dX10_turnable_30 fv_9_2) ?_
      refine E.m (h.get (hW.clo 33 (hW.clo 25 (hW.clo 35 h0 rfl) rfl) rfl) lf_RX10_202 dX10_turnable_33 fv_5_2) ?_
      refine E.m (h.goto (tgt := 52) dX10_turnable_36 (by decide)) ?_
      exact hJ52 _
    · refine E.m (h.aload_n 0 dX10_turnable_39 rfl) ?_
      refine E.m (h.get h0 lf_RX10_26 dX10_turnable_40 fv_10_2) ?_
      refine E.m (h.get (hW.clo 35 h0 rfl) lf_RX10_77 dX10_turnable_43 fv_8_0) ?_
      refine E.m (h.get (hW.clo 25 (hW.clo 35 h0 rfl) rfl) lf_RX10_104 dX10_turnable_46 fv_9_2) ?_
      refine E.m (h.get (hW.clo 33 (hW.clo 25 (hW.clo 35 h0 rfl) rfl) rfl) lf_RX10_181 dX10_turnable_49 fv_5_1) ?_
      exact hJ52 _
def f_X10_undo (t : Nat) (M : Mem) : Option (Int32 × Mem) :=
  gdp (M.2.2 0 = t + 3 ∨ M.2.2 0 = t + 11) (bd (f_X8_takeBack (t + 19) (M.2.2 0) M) (fun u2 M3 => some (u2, M3)))
set_option maxRecDepth 20000 in
theorem c_X10_undo {G : Ctx} (hW : WFG G) {t : Nat} {M M' : Mem} {r : Int32} (h0 : hs G t (0, 10)) (hf : f_X10_undo t M = some (r, M')) : Ct G yX10_undo cX10_undo 1 (some .int) 7 170 [.ref t] M (some (.int r)) M' := by
  refine ct_i hW (by decide +kernel) (Nat.le_of_ble_eq_true rfl) (fun w h hr => ?_)
  have h : Rb G cX10_undo RX10 1 7 170 w := h
  refine (?_ : E (fun q => q = (r, M')) (f_X10_undo t M) (w M 0 [(0, .ref t)] [])) _ hf rfl
  unfold f_X10_undo
  refine E.m (h.aload_n 0 dX10_undo_0 rfl) ?_
  refine E.m (h.get h0 lf_RX10_26 dX10_undo_1 fv_10_2) ?_
  refine E.m (h.aload_n 0 dX10_undo_4 rfl) ?_
  refine E.gd (fun _ k => h.get h0 lf_RX10_19 dX10_undo_5 fv_10_1 k) (fun hd1 => ?_)
  refine E.bnd (fun u2 M3 => w M3 11 [(0, .ref t)] [.int u2]) (fun u2 M3 hf k => h.callV (As := [.ref (M.2.2 0)]) (rest := []) (c_X8_takeBack hW (hW.clo 35 h0 rfl) (hs2 hd1 (hW.clo 38 h0 rfl) (hW.clo 39 h0 rfl)) hf) lm_X8_takeBack lv_m_X8_takeBack ll_RX10_283 (hW.clo 35 h0 rfl) lc_8 rfl rfl (Nat.le_of_ble_eq_true rfl) (by decide) dX10_undo_8 rfl k) (fun u2 M3 => ?_)
  exact E.some (ret_i hr rfl dX10_undo_11)
def f_X10_settles (t : Nat) (M : Mem) : Option (Int32 × Mem) :=
  gdp (M.2.2 0 = t + 3 ∨ M.2.2 0 = t + 11) (bd (f_X2_firstSettled (t + 79) (t + 19 + 1) (M.2.2 0) M) (fun u2 M3 => some (u2, M3)))
set_option maxRecDepth 20000 in
theorem c_X10_settles {G : Ctx} (hW : WFG G) {t : Nat} {M M' : Mem} {r : Int32} (h0 : hs G t (0, 10)) (hf : f_X10_settles t M = some (r, M')) : Ct G yX10_settles cX10_settles 1 (some .int) 6 174 [.ref t] M (some (.int r)) M' := by
  refine ct_i hW (by decide +kernel) (Nat.le_of_ble_eq_true rfl) (fun w h hr => ?_)
  have h : Rb G cX10_settles RX10 1 6 174 w := h
  refine (?_ : E (fun q => q = (r, M')) (f_X10_settles t M) (w M 0 [(0, .ref t)] [])) _ hf rfl
  unfold f_X10_settles
  refine E.m (h.aload_n 0 dX10_settles_0 rfl) ?_
  refine E.m (h.get h0 lf_RX10_36 dX10_settles_1 fv_10_5) ?_
  refine E.m (h.aload_n 0 dX10_settles_4 rfl) ?_
  refine E.m (h.get h0 lf_RX10_26 dX10_settles_5 fv_10_2) ?_
  refine E.m (h.get (hW.clo 35 h0 rfl) lf_RX10_77 dX10_settles_8 fv_8_0) ?_
  refine E.m (h.aload_n 0 dX10_settles_11 rfl) ?_
  refine E.gd (fun _ k => h.get h0 lf_RX10_19 dX10_settles_12 fv_10_1 k) (fun hd1 => ?_)
  refine E.bnd (fun u2 M3 => w M3 18 [(0, .ref t)] [.int u2]) (fun u2 M3 hf k => h.callV (As := [.ref (t + 19 + 1), .ref (M.2.2 0)]) (rest := []) (c_X2_firstSettled hW (hW.clo 37 h0 rfl) (hW.clo 25 (hW.clo 35 h0 rfl) rfl) (hs2 hd1 (hW.clo 38 h0 rfl) (hW.clo 39 h0 rfl)) hf) lm_X2_firstSettled lv_m_X2_firstSettled ll_RX10_303 (hW.clo 37 h0 rfl) lc_2 rfl rfl (Nat.le_of_ble_eq_true rfl) (by decide) dX10_settles_15 rfl k) (fun u2 M3 => ?_)
  exact E.some (ret_i hr rfl dX10_settles_18)
def f_X10_note (t : Nat) (x1_ : Int32) (x2_ : Int32) (M : Mem) : Option (Int32 × Mem) :=
  jn0 (fun _ => bd (f_X8_refuse (t + 19) (2 : Int32) M) (fun _ M2 => some ((-1 : Int32), M2))) (fun J33 => if (8 : Int32) ≤ (M.1 (t + 19) 5) then (J33 ()) else (if x1_ < 0 then (J33 ()) else (if (60 : Int32) < x1_ then (J33 ()) else (if x2_ < 0 then (J33 ()) else (if x2_ ≤ (999 : Int32) then (bd (f_X8_keepNote (t + 19) x1_ x2_ M) (fun u3 M4 => some (u3, M4))) else (J33 ()))))))
set_option maxRecDepth 20000 in
theorem c_X10_note {G : Ctx} (hW : WFG G) {t : Nat} {x1_ : Int32} {x2_ : Int32} {M M' : Mem} {r : Int32} (h0 : hs G t (0, 10)) (hf : f_X10_note t x1_ x2_ M = some (r, M')) : Ct G yX10_note cX10_note 3 (some .int) 2 44 [.ref t, .int x1_, .int x2_] M (some (.int r)) M' := by
  refine ct_i hW (by decide +kernel) (Nat.le_of_ble_eq_true rfl) (fun w h hr => ?_)
  have h : Rb G cX10_note RX10 3 2 44 w := h
  refine (?_ : E (fun q => q = (r, M')) (f_X10_note t x1_ x2_ M) (w M 0 [(0, .ref t), (1, .int x1_), (2, .int x2_)] [])) _ hf rfl
  unfold f_X10_note
  refine E.m (h.aload_n 0 dX10_note_0 rfl) ?_
  refine E.m (h.get h0 lf_RX10_26 dX10_note_1 fv_10_2) ?_
  refine E.m (h.get (hW.clo 35 h0 rfl) lf_RX10_165 dX10_note_4 fv_8_5) ?_
  refine E.m (h.bipush (v := (8 : Int32)) dX10_note_7 (by decide)) ?_
  refine E.join0 (fun _ => w M 33 [(0, .ref t), (1, .int x1_), (2, .int x2_)] []) (fun _ => ?_) (fun J33 hJ33 => ?_)
  · refine E.m (h.aload_n 0 dX10_note_33 rfl) ?_
    refine E.m (h.get h0 lf_RX10_26 dX10_note_34 fv_10_2) ?_
    refine E.m (h.iconst (v := (2 : Int32)) dX10_note_37 (by decide)) ?_
    refine E.bnd (fun _ M2 => w M2 41 [(0, .ref t), (1, .int x1_), (2, .int x2_)] []) (fun _ M2 hf k => h.callV (As := [.int (2 : Int32)]) (rest := []) (c_X8_refuse hW (hW.clo 35 h0 rfl) hf) lm_X8_refuse lv_m_X8_refuse ll_RX10_63 (hW.clo 35 h0 rfl) lc_8 rfl rfl (Nat.le_of_ble_eq_true rfl) (by decide) dX10_note_38 rfl k) (fun _ M2 => ?_)
    refine E.m (h.iconst (v := (-1 : Int32)) dX10_note_41 (by decide)) ?_
    exact E.some (ret_i hr rfl dX10_note_42)
  refine E.br (fun k1 k2 => h.icmp_ge (tgt := 33) dX10_note_9 (by decide) k1 k2) ?_ ?_
  · exact hJ33 ()
  · refine E.m (h.iload_n 1 dX10_note_12 rfl) ?_
    refine E.br (fun k1 k2 => h.if_lt (tgt := 33) dX10_note_13 (by decide) k1 k2) ?_ ?_
    · exact hJ33 ()
    · refine E.m (h.iload_n 1 dX10_note_16 rfl) ?_
      refine E.m (h.bipush (v := (60 : Int32)) dX10_note_17 (by decide)) ?_
      refine E.br (fun k1 k2 => h.icmp_gt (tgt := 33) dX10_note_19 (by decide) k1 k2) ?_ ?_
      · exact hJ33 ()
      · refine E.m (h.iload_n 2 dX10_note_22 rfl) ?_
        refine E.br (fun k1 k2 => h.if_lt (tgt := 33) dX10_note_23 (by decide) k1 k2) ?_ ?_
        · exact hJ33 ()
        · refine E.m (h.iload_n 2 dX10_note_26 rfl) ?_
          refine E.m (h.sipush (v := (999 : Int32)) dX10_note_27 (by decide)) ?_
          refine E.br (fun k1 k2 => h.icmp_le (tgt := 43) dX10_note_30 (by decide) k1 k2) ?_ ?_
          · refine E.m (h.aload_n 0 dX10_note_43 rfl) ?_
            refine E.m (h.get h0 lf_RX10_26 dX10_note_44 fv_10_2) ?_
            refine E.m (h.iload_n 1 dX10_note_47 rfl) ?_
            refine E.m (h.iload_n 2 dX10_note_48 rfl) ?_
            refine E.bnd (fun u3 M4 => w M4 52 [(0, .ref t), (1, .int x1_), (2, .int x2_)] [.int u3]) (fun u3 M4 hf k => h.callV (As := [.int x1_, .int x2_]) (rest := []) (c_X8_keepNote hW (hW.clo 35 h0 rfl) hf) lm_X8_keepNote lv_m_X8_keepNote ll_RX10_321 (hW.clo 35 h0 rfl) lc_8 rfl rfl (Nat.le_of_ble_eq_true rfl) (by decide) dX10_note_49 rfl k) (fun u3 M4 => ?_)
            exact E.some (ret_i hr rfl dX10_note_52)
          · exact hJ33 ()
def f_X10_forget (t : Nat) (M : Mem) : Option (Unit × Mem) :=
  nm (wi M (t + 19) 5 (0 : Int32)) (fun M1 => some ((), M1))
set_option maxRecDepth 20000 in
theorem c_X10_forget {G : Ctx} (hW : WFG G) {t : Nat} {M M' : Mem} (h0 : hs G t (0, 10)) (hf : f_X10_forget t M = some ((), M')) : Ct G yX10_forget cX10_forget 1 none 0 0 [.ref t] M none M' := by
  refine ct_v hW (by decide +kernel) (Nat.le_of_ble_eq_true rfl) (fun w h hr => ?_)
  have h : Rb G cX10_forget RX10 1 0 0 w := h
  refine (?_ : E (fun q => q = ((), M')) (f_X10_forget t M) (w M 0 [(0, .ref t)] [])) _ hf rfl
  unfold f_X10_forget
  refine E.m (h.aload_n 0 dX10_forget_0 rfl) ?_
  refine E.m (h.get h0 lf_RX10_26 dX10_forget_1 fv_10_2) ?_
  refine E.m (h.iconst (v := (0 : Int32)) dX10_forget_4 (by decide)) ?_
  refine E.m (h.puti (hW.clo 35 h0 rfl) lp_RX10_165 rfl dX10_forget_5) ?_
  refine E.nmM (fun M1 => ?_)
  exact E.some (ret_v hr dX10_forget_8)
def f_X10_image (t : Nat) (M : Mem) : Option (Unit × Mem) :=
  bd (f_X8_copyFrom (t + 49) (t + 19) M) (fun _ M2 => nm (wi M2 t 4 (1 : Int32)) (fun M3 => some ((), M3)))
set_option maxRecDepth 20000 in
theorem c_X10_image {G : Ctx} (hW : WFG G) {t : Nat} {M M' : Mem} (h0 : hs G t (0, 10)) (hf : f_X10_image t M = some ((), M')) : Ct G yX10_image cX10_image 1 none 6 169 [.ref t] M none M' := by
  refine ct_v hW (by decide +kernel) (Nat.le_of_ble_eq_true rfl) (fun w h hr => ?_)
  have h : Rb G cX10_image RX10 1 6 169 w := h
  refine (?_ : E (fun q => q = ((), M')) (f_X10_image t M) (w M 0 [(0, .ref t)] [])) _ hf rfl
  unfold f_X10_image
  refine E.m (h.aload_n 0 dX10_image_0 rfl) ?_
  refine E.m (h.get h0 lf_RX10_30 dX10_image_1 fv_10_3) ?_
  refine E.m (h.aload_n 0 dX10_image_4 rfl) ?_
  refine E.m (h.get h0 lf_RX10_26 dX10_image_5 fv_10_2) ?_
  refine E.bnd (fun _ M2 => w M2 11 [(0, .ref t)] []) (fun _ M2 hf k => h.callV (As := [.ref (t + 19)]) (rest := []) (c_X8_copyFrom hW (hW.clo 36 h0 rfl) (hW.clo 35 h0 rfl) hf) lm_X8_copyFrom lv_m_X8_copyFrom ll_RX10_352 (hW.clo 36 h0 rfl) lc_8 rfl rfl (Nat.le_of_ble_eq_true rfl) (by decide) dX10_image_8 rfl k) (fun _ M2 => ?_)
  refine E.m (h.aload_n 0 dX10_image_11 rfl) ?_
  refine E.m (h.iconst (v := (1 : Int32)) dX10_image_12 (by decide)) ?_
  refine E.m (h.putz h0 lp_RX10_70 rfl dX10_image_13 (by decide)) ?_
  refine E.nmM (fun M3 => ?_)
  exact E.some (ret_v hr dX10_image_16)
def f_X10_restore (t : Nat) (M : Mem) : Option (Int32 × Mem) :=
  if (M.1 t 4) = 0 then (some ((0 : Int32), M)) else (bd (f_X8_copyFrom (t + 19) (t + 49) M) (fun _ M2 => some ((1 : Int32), M2)))
set_option maxRecDepth 20000 in
theorem c_X10_restore {G : Ctx} (hW : WFG G) {t : Nat} {M M' : Mem} {r : Int32} (h0 : hs G t (0, 10)) (hf : f_X10_restore t M = some (r, M')) : Ct G yX10_restore cX10_restore 1 (some .boolean) 6 169 [.ref t] M (some (.int r)) M' := by
  refine ct_i hW (by decide +kernel) (Nat.le_of_ble_eq_true rfl) (fun w h hr => ?_)
  have h : Rb G cX10_restore RX10 1 6 169 w := h
  refine (?_ : E (fun q => q = (r, M')) (f_X10_restore t M) (w M 0 [(0, .ref t)] [])) _ hf rfl
  unfold f_X10_restore
  refine E.m (h.aload_n 0 dX10_restore_0 rfl) ?_
  refine E.m (h.get h0 lf_RX10_70 dX10_restore_1 fv_10_4) ?_
  refine E.br (fun k1 k2 => h.if_ne (tgt := 9) dX10_restore_4 (by decide) k2 k1) ?_ ?_
  · refine E.m (h.iconst (v := (0 : Int32)) dX10_restore_7 (by decide)) ?_
    exact E.some (ret_i hr rfl dX10_restore_8)
  · refine E.m (h.aload_n 0 dX10_restore_9 rfl) ?_
    refine E.m (h.get h0 lf_RX10_26 dX10_restore_10 fv_10_2) ?_
    refine E.m (h.aload_n 0 dX10_restore_13 rfl) ?_
    refine E.m (h.get h0 lf_RX10_30 dX10_restore_14 fv_10_3) ?_
    refine E.bnd (fun _ M2 => w M2 20 [(0, .ref t)] []) (fun _ M2 hf k => h.callV (As := [.ref (t + 49)]) (rest := []) (c_X8_copyFrom hW (hW.clo 35 h0 rfl) (hW.clo 36 h0 rfl) hf) lm_X8_copyFrom lv_m_X8_copyFrom ll_RX10_352 (hW.clo 35 h0 rfl) lc_8 rfl rfl (Nat.le_of_ble_eq_true rfl) (by decide) dX10_restore_17 rfl k) (fun _ M2 => ?_)
    refine E.m (h.iconst (v := (1 : Int32)) dX10_restore_20 (by decide)) ?_
    exact E.some (ret_i hr rfl dX10_restore_21)
