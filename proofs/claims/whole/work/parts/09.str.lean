theorem lm_J0_length_8abf5 : lkM yJ0_length_8abf5 cJ0_length_8abf5 1 (some .int) 0 := ⟨gin 1003 (by decide +kernel) rfl, gin 107 (by decide +kernel) rfl, by decide +kernel⟩
theorem lv_m_J0_length_8abf5 : Cond.instanceMethod yJ0_length_8abf5 ∈ gw ∧ Cond.selects (yJ0_length_8abf5).cls yJ0_length_8abf5 yJ0_length_8abf5 ∈ gw := ⟨gin 1001 (by decide +kernel) rfl, gin 1002 (by decide +kernel) rfl⟩
theorem lm_J0_coder_7d493 : lkM yJ0_coder_7d493 cJ0_coder_7d493 1 (some .byte) 0 := ⟨gin 1007 (by decide +kernel) rfl, gin 107 (by decide +kernel) rfl, by decide +kernel⟩
theorem lv_m_J0_coder_7d493 : Cond.instanceMethod yJ0_coder_7d493 ∈ gw ∧ Cond.selects (yJ0_coder_7d493).cls yJ0_coder_7d493 yJ0_coder_7d493 ∈ gw := ⟨gin 1005 (by decide +kernel) rfl, gin 1006 (by decide +kernel) rfl⟩
theorem lm_J0_charAt_5068e : lkM yJ0_charAt_5068e cJ0_charAt_5068e 2 (some .char) 1 := ⟨gin 1013 (by decide +kernel) rfl, gin 107 (by decide +kernel) rfl, by decide +kernel⟩
theorem lv_m_J0_charAt_5068e : Cond.instanceMethod yJ0_charAt_5068e ∈ gw ∧ Cond.selects (yJ0_charAt_5068e).cls yJ0_charAt_5068e yJ0_charAt_5068e ∈ gw := ⟨gin 1011 (by decide +kernel) rfl, gin 1012 (by decide +kernel) rfl⟩
theorem lm_J0_isLatin1_aae02 : lkM yJ0_isLatin1_aae02 cJ0_isLatin1_aae02 1 (some .boolean) 0 := ⟨gin 1017 (by decide +kernel) rfl, gin 107 (by decide +kernel) rfl, by decide +kernel⟩
theorem lv_m_J0_isLatin1_aae02 : Cond.instanceMethod yJ0_isLatin1_aae02 ∈ gw ∧ Cond.selects (yJ0_isLatin1_aae02).cls yJ0_isLatin1_aae02 yJ0_isLatin1_aae02 ∈ gw := ⟨gin 1015 (by decide +kernel) rfl, gin 1016 (by decide +kernel) rfl⟩
theorem lm_J1_charAt_3b067 : lkM yJ1_charAt_3b067 cJ1_charAt_3b067 2 (some .char) 2 := ⟨gin 1020 (by decide +kernel) rfl, gin 108 (by decide +kernel) rfl, by decide +kernel⟩
theorem ls_m_J1_charAt_3b067 : Cond.static yJ1_charAt_3b067 ∈ gw := gin 1019 (by decide +kernel) rfl
theorem lm_J0_checkIndex_df160 : lkM yJ0_checkIndex_df160 cJ0_checkIndex_df160 2 none 2 := ⟨gin 1023 (by decide +kernel) rfl, gin 107 (by decide +kernel) rfl, by decide +kernel⟩
theorem ls_m_J0_checkIndex_df160 : Cond.static yJ0_checkIndex_df160 ∈ gw := gin 1022 (by decide +kernel) rfl
theorem lm_J3_checkIndex_8e157 : lkM yJ3_checkIndex_8e157 cJ3_checkIndex_8e157 3 (some .int) 3 := ⟨gin 1028 (by decide +kernel) rfl, gin 109 (by decide +kernel) rfl, by decide +kernel⟩
theorem ls_m_J3_checkIndex_8e157 : Cond.static yJ3_checkIndex_8e157 ∈ gw := gin 1027 (by decide +kernel) rfl
theorem ll_RJ0_335 : Cond.methodLink RJ0 335 yJ0_coder_7d493 ∈ gw := gin 1004 (by decide +kernel) rfl
theorem ll_RJ0_492 : Cond.methodLink RJ0 492 yJ0_isLatin1_aae02 ∈ gw := gin 1014 (by decide +kernel) rfl
theorem ll_RJ0_495 : Cond.methodLink RJ0 495 yJ1_charAt_3b067 ∈ gw := gin 1018 (by decide +kernel) rfl
theorem ll_RJ1_9 : Cond.methodLink RJ1 9 yJ0_checkIndex_df160 ∈ gw := gin 1021 (by decide +kernel) rfl
theorem ll_RJ0_1059 : Cond.methodLink RJ0 1059 yJ3_checkIndex_8e157 ∈ gw := gin 1026 (by decide +kernel) rfl
theorem lf_RJ0_9 : Cond.fieldLink RJ0 9 "java/lang/String" "value" "[B" ∈ gw := gin 2004 (by decide +kernel) rfl
theorem lf_RJ0_15 : Cond.fieldLink RJ0 15 "java/lang/String" "coder" "B" ∈ gw := gin 2005 (by decide +kernel) rfl
theorem lf_RJ0_38 : Cond.fieldLink RJ0 38 "java/lang/String" "COMPACT_STRINGS" "Z" ∈ gw := gin 1008 (by decide +kernel) rfl
theorem lf_RJ0_1053 : Cond.fieldLink RJ0 1053 "jdk/internal/util/Preconditions" "SIOOBE_FORMATTER" "Ljava/util/function/BiFunction;" ∈ gw := gin 1024 (by decide +kernel) rfl
section STRM
variable {G : Ctx} {cc : ByteArray} {own : String} {nL F Lo : Nat} {w : Mem → Nat → List (Nat × Value) → List Value → Prop} {M : Mem} {pc : Nat} {ls : List (Nat × Value)} {st : List Value}
theorem Rb.s_val (h : Rb G cc RJ0 nL F Lo w) {i : Nat} (hi : i < 32) (d : decode cc pc = .ok (.getfield 9, 3)) (kk : w M (pc + 3) ls (.ref (gaV G i) :: st)) : w M pc ls (.ref (gaK G i) :: st) := by
  obtain ⟨hG, p, e, R, s, m, args, below, meth, c, kc, ks, Q, ⟨hx, hb, hml, hown, hts, hK, hSK, hF, hLo, hkc, hks⟩, rfl⟩ := h
  intro H locs lsA hP hS hl
  exact vk_getf hx hb (hSK.1 i hi).2.2.1 hS hown (hts _ lf_RJ0_9) (fun x hx => hx) d (kk H locs lsA hP hS hl)
theorem Rb.s_cod (h : Rb G cc RJ0 nL F Lo w) {i : Nat} (hi : i < 32) (d : decode cc pc = .ok (.getfield 15, 3)) (kk : w M (pc + 3) ls (.int 0 :: st)) : w M pc ls (.ref (gaK G i) :: st) := by
  obtain ⟨hG, p, e, R, s, m, args, below, meth, c, kc, ks, Q, ⟨hx, hb, hml, hown, hts, hK, hSK, hF, hLo, hkc, hks⟩, rfl⟩ := h
  intro H locs lsA hP hS hl
  exact vk_getf hx hb (hSK.1 i hi).2.1 hS hown (hts _ lf_RJ0_15) (fun x hx => hx) d (kk H locs lsA hP hS hl)
theorem Rb.s_cmp (h : Rb G cc RJ0 nL F Lo w) (d : decode cc pc = .ok (.getstatic 38, 3)) (kk : w M (pc + 3) ls (.int 1 :: st)) : w M pc ls st := by
  obtain ⟨hG, p, e, R, s, m, args, below, meth, c, kc, ks, Q, ⟨hx, hb, hml, hown, hts, hK, hSK, hF, hLo, hkc, hks⟩, rfl⟩ := h
  intro H locs lsA hP hS hl
  exact va_gets hx hb hSK.2.2.2.2.2.1 hS hown (hts _ lf_RJ0_38) (fun x hx => hx) d (kk H locs lsA hP hS hl)
theorem Rb.s_fmt (h : Rb G cc RJ0 nL F Lo w) (d : decode cc pc = .ok (.getstatic 1053, 3)) (kk : ∀ v, v.category = 1 → w M (pc + 3) ls (v :: st)) : w M pc ls st := by
  obtain ⟨hG, p, e, R, s, m, args, below, meth, c, kc, ks, Q, ⟨hx, hb, hml, hown, hts, hK, hSK, hF, hLo, hkc, hks⟩, rfl⟩ := h
  intro H locs lsA hP hS hl
  rcases hSK.2.2.2.2.2.2.1 with hz | ⟨t, hz⟩
  · exact va_gets hx hb hz hS hown (hts _ lf_RJ0_1053) (fun x hx => hx) d (kk _ rfl H locs lsA hP hS hl)
  · exact va_gets hx hb hz hS hown (hts _ lf_RJ0_1053) (fun x hx => hx) d (kk _ rfl H locs lsA hP hS hl)
theorem Rb.s_len (h : Rb G cc own nL F Lo w) {i : Nat} (hi : i < 32) (d : decode cc pc = .ok (.arraylength, 1)) (kk : w M (pc + 1) ls (.int (Int32.ofNat (sLen.getD i 0)) :: st)) : w M pc ls (.ref (gaV G i) :: st) := by
  obtain ⟨hG, p, e, R, s, m, args, below, meth, c, kc, ks, Q, ⟨hx, hb, hml, hown, hts, hK, hSK, hF, hLo, hkc, hks⟩, rfl⟩ := h
  intro H locs lsA hP hS hl
  exact va_tlen hx hb (hSK.1 i hi).2.2.2 hS rfl d (kk H locs lsA hP hS hl)
theorem Rb.s_ald (h : Rb G cc own nL F Lo w) {i : Nat} (hi : i < 32) {j : Int32} (hj : 0 ≤ j.toInt ∧ j.toInt < ((sLen.getD i 0 : Nat) : Int)) (d : decode cc pc = .ok (.baload, 1)) (kk : w M (pc + 1) ls (.int ((sByt.getD i []).getD j.toNatClampNeg 0) :: st)) : w M pc ls (.int j :: .ref (gaV G i) :: st) := by
  obtain ⟨hG, p, e, R, s, m, args, below, meth, c, kc, ks, Q, ⟨hx, hb, hml, hown, hts, hK, hSK, hF, hLo, hkc, hks⟩, rfl⟩ := h
  intro H locs lsA hP hS hl
  exact va_tb hx hb (hSK.1 i hi).2.2.2 hS (vp_in_iff.mpr hj) rfl d (kk H locs lsA hP hS hl)
theorem Rb.i2c (h : Rb G cc own nL F Lo w) {x : Int32} (d : decode cc pc = .ok (.i2c, 1)) (kk : w M (pc + 1) ls (.int (x.toUInt32 % 65536).toInt32 :: st)) : w M pc ls (.int x :: st) := by
  obtain ⟨hG, p, e, R, s, m, args, below, meth, c, kc, ks, Q, ⟨hx, hb, hml, hown, hts, hK, hSK, hF, hLo, hkc, hks⟩, rfl⟩ := h
  intro H locs lsA hP hS hl
  exact lv_i2c hx hb d rfl (kk H locs lsA hP hS hl)
theorem Rb.callVK (h : Rb G cc own nL F Lo w) {y : MethodName} {b : ByteArray} {mL F' Lo' n idx i : Nat} {ret : Option FieldType} {rv : Option Value} {As rest st2 : List Value} {M' : Mem} (hi0 : i < 32) (hc : Ct G y b mL ret F' Lo' (.ref (gaK G i) :: As) M rv M') (hm : lkM y b mL ret n) (hi : Cond.instanceMethod y ∈ gw ∧ Cond.selects y.cls y y ∈ gw) (hl : Cond.methodLink own idx y ∈ gw) (hcl : y.cls = "java/lang/String") (hn : As.length = n) (hst : st = As.reverse ++ .ref (gaK G i) :: rest) (hr : (rest.map fun v => v.category).sum ≤ 8) (hF : F' + 1 ≤ F ∧ 8 + (mL + 11) + Lo' ≤ Lo) (d : decode cc pc = .ok (.invokevirtual idx, 3)) (hst2 : rv.toList ++ rest = st2) (kk : w M' (pc + 3) ls st2) : w M pc ls st := by
  obtain ⟨hG, p, e, R, s, m, args, below, meth, c, kc, ks, Q, ⟨hx, hb, hml, hown, hts, hK, hSK, hFR, hLR, hkc, hks⟩, rfl⟩ := h
  intro H locs lsA hP hS hl'
  refine wx_behind hS hl' hst2 kk (va_runV (C := "java/lang/String") (As := As) (rest := rest) ⟨hx, hb, hml, hown, hts⟩ (hc H.size) ⟨callB_of n hts (good_gw hm.1) rfl rfl rfl (hts _ hm.2.1) (hts _ hl) hm.2.2 ⟨Nat.le_trans hF.1 hFR, Nat.le_trans hF.2 hLR⟩, hts _ hi.1, by rw [← hcl]; exact hts _ hi.2⟩ ⟨Pcm.blind, hSK.1.recv hi0 hS, pcm_at hP hS hK hSK (.ref (gaK G i) :: As)⟩ rfl hn hl'.1 hst (lv_room hr) d ⟨hkc, hks⟩)
end STRM
section STRC
variable {G : Ctx} {M : Mem}
theorem c_coder (hW : WFG G) {i : Nat} (hi : i < 32) : Ct G yJ0_coder_7d493 cJ0_coder_7d493 1 (some .byte) 0 0 [.ref (gaK G i)] M (some (.int 0)) M := by
  refine ct_i hW (by decide +kernel) (Nat.le_of_ble_eq_true rfl) (fun w h hr => ?_)
  have h : Rb G cJ0_coder_7d493 RJ0 1 0 0 w := h
  show w M 0 [(0, .ref (gaK G i))] []
  refine h.s_cmp dJ0_coder_7d493_0 ?_
  refine h.if_eq (tgt := 13) dJ0_coder_7d493_3 (by decide) (fun q => absurd q (by decide)) (fun _ => ?_)
  refine h.aload_n 0 dJ0_coder_7d493_6 rfl ?_
  refine h.s_cod hi dJ0_coder_7d493_7 ?_
  refine h.goto (tgt := 14) dJ0_coder_7d493_10 (by decide) ?_
  exact hr _ _ (by decide) dJ0_coder_7d493_14
theorem c_isLat (hW : WFG G) {i : Nat} (hi : i < 32) : Ct G yJ0_isLatin1_aae02 cJ0_isLatin1_aae02 1 (some .boolean) 0 0 [.ref (gaK G i)] M (some (.int 1)) M := by
  refine ct_i hW (by decide +kernel) (Nat.le_of_ble_eq_true rfl) (fun w h hr => ?_)
  have h : Rb G cJ0_isLatin1_aae02 RJ0 1 0 0 w := h
  show w M 0 [(0, .ref (gaK G i))] []
  refine h.s_cmp dJ0_isLatin1_aae02_0 ?_
  refine h.if_eq (tgt := 17) dJ0_isLatin1_aae02_3 (by decide) (fun q => absurd q (by decide)) (fun _ => ?_)
  refine h.aload_n 0 dJ0_isLatin1_aae02_6 rfl ?_
  refine h.s_cod hi dJ0_isLatin1_aae02_7 ?_
  refine h.if_ne (tgt := 17) dJ0_isLatin1_aae02_10 (by decide) (fun q => absurd rfl q) (fun _ => ?_)
  refine h.iconst (v := 1) dJ0_isLatin1_aae02_13 (by decide) ?_
  refine h.goto (tgt := 18) dJ0_isLatin1_aae02_14 (by decide) ?_
  exact hr _ _ (by decide) dJ0_isLatin1_aae02_18
theorem c_pre (hW : WFG G) {i n : Int32} {v : Value} (hv : v.category = 1) (h0 : ¬ i < 0) (hn : i < n) : Ct G yJ3_checkIndex_8e157 cJ3_checkIndex_8e157 3 (some .int) 0 0 [.int i, .int n, v] M (some (.int i)) M := by
  refine ct_i hW (by decide +kernel) (by simp [lg_sl, hv]; exact Nat.le_of_ble_eq_true rfl) (fun w h hr => ?_)
  have h : Rb G cJ3_checkIndex_8e157 RJ3 3 0 0 w := h
  show w M 0 [(0, .int i), (1, .int n), (2, v)] []
  refine h.iload_n 0 dJ3_checkIndex_8e157_0 rfl ?_
  refine h.if_lt (tgt := 9) dJ3_checkIndex_8e157_1 (by decide) (fun q => absurd q h0) (fun _ => ?_)
  refine h.iload_n 0 dJ3_checkIndex_8e157_4 rfl ?_
  refine h.iload_n 1 dJ3_checkIndex_8e157_5 rfl ?_
  refine h.icmp_lt (tgt := 16) dJ3_checkIndex_8e157_6 (by decide) (fun _ => ?_) (fun q => absurd hn q)
  refine h.iload_n 0 dJ3_checkIndex_8e157_16 rfl ?_
  exact hr _ _ rfl dJ3_checkIndex_8e157_17
theorem c_chk (hW : WFG G) {i n : Int32} (h0 : ¬ i < 0) (hn : i < n) : Ct G yJ0_checkIndex_df160 cJ0_checkIndex_df160 2 none 1 30 [.int i, .int n] M none M := by
  refine ct_v hW (by decide +kernel) (Nat.le_of_ble_eq_true rfl) (fun w h hr => ?_)
  have h : Rb G cJ0_checkIndex_df160 RJ0 2 1 30 w := h
  show w M 0 [(0, .int i), (1, .int n)] []
  refine h.iload_n 0 dJ0_checkIndex_df160_0 rfl ?_
  refine h.iload_n 1 dJ0_checkIndex_df160_1 rfl ?_
  refine h.s_fmt dJ0_checkIndex_df160_2 (fun v hv => ?_)
  refine h.callS (As := [.int i, .int n, v]) (rest := []) (c_pre hW hv h0 hn) lm_J3_checkIndex_8e157 ls_m_J3_checkIndex_8e157 ll_RJ0_1059 rfl rfl (by decide) (by decide) dJ0_checkIndex_df160_5 rfl ?_
  refine h.pop dJ0_checkIndex_df160_8 rfl ?_
  exact hr _ _ dJ0_checkIndex_df160_9
theorem sk_all : ∀ i, i < 32 → ∀ b ∈ sByt.getD i [], (b &&& 255).toUInt32 % 65536 = b.toUInt32 ∧ narrow .char (.int b) = .int b := by decide +kernel
theorem sk_len : ∀ i, i < 32 → (sByt.getD i []).length = sLen.getD i 0 ∧ sLen.getD i 0 < 100 := by decide +kernel
theorem sk_at {i : Nat} (hi : i < 32) {j : Int32} (hj : 0 ≤ j.toInt ∧ j.toInt < ((sLen.getD i 0 : Nat) : Int)) : (sByt.getD i []).getD j.toNatClampNeg 0 ∈ sByt.getD i [] := by
  have h1 := (nn_z hj.1).2
  have h2 := (sk_len i hi).1
  have h3 : j.toNatClampNeg < (sByt.getD i []).length := by omega
  generalize sByt.getD i [] = l9 at h3 ⊢
  rw [List.getD_eq_getElem?_getD, List.getElem?_eq_getElem h3]
  exact List.getElem_mem h3
theorem sk_idx {i : Nat} (hi : i < 32) {j : Int32} (hj : 0 ≤ j.toInt ∧ j.toInt < ((sLen.getD i 0 : Nat) : Int)) : ¬ j < 0 ∧ j < Int32.ofNat (sLen.getD i 0) := by
  refine ⟨(nn_z hj.1).1, ?_⟩
  rw [Int32.lt_iff_toInt_lt, Int32.toInt_ofNat_of_lt (by have := (sk_len i hi).2; omega)]
  exact hj.2
theorem c_lat (hW : WFG G) {i : Nat} (hi : i < 32) {j : Int32} (hj : 0 ≤ j.toInt ∧ j.toInt < ((sLen.getD i 0 : Nat) : Int)) : Ct G yJ1_charAt_3b067 cJ1_charAt_3b067 2 (some .char) 2 60 [.ref (gaV G i), .int j] M (some (.int ((sByt.getD i []).getD j.toNatClampNeg 0))) M := by
  have hb := sk_all i hi _ (sk_at hi hj)
  have hx := sk_idx hi hj
  refine ct_i hW (by decide +kernel) (Nat.le_of_ble_eq_true rfl) (fun w h hr => ?_)
  have h : Rb G cJ1_charAt_3b067 RJ1 2 2 60 w := h
  show w M 0 [(0, .ref (gaV G i)), (1, .int j)] []
  refine h.iload_n 1 dJ1_charAt_3b067_0 rfl ?_
  refine h.aload_n 0 dJ1_charAt_3b067_1 rfl ?_
  refine h.s_len hi dJ1_charAt_3b067_2 ?_
  refine h.callS (As := [.int j, .int (Int32.ofNat (sLen.getD i 0))]) (rest := []) (c_chk hW hx.1 hx.2) lm_J0_checkIndex_df160 ls_m_J0_checkIndex_df160 ll_RJ1_9 rfl rfl (by decide) (by decide) dJ1_charAt_3b067_3 rfl ?_
  refine h.aload_n 0 dJ1_charAt_3b067_6 rfl ?_
  refine h.iload_n 1 dJ1_charAt_3b067_7 rfl ?_
  refine h.s_ald hi hj dJ1_charAt_3b067_8 ?_
  refine h.sipush (v := 255) dJ1_charAt_3b067_9 (by decide) ?_
  refine h.iand dJ1_charAt_3b067_12 ?_
  refine h.i2c dJ1_charAt_3b067_13 ?_
  generalize (sByt.getD i []).getD j.toNatClampNeg 0 = b at hb hr ⊢
  have e9 : ((b &&& 255).toUInt32 % 65536).toInt32 = b := by rw [hb.1]; exact Int32.toInt32_toUInt32 b
  rw [e9]
  exact hr _ _ hb.2 dJ1_charAt_3b067_14
theorem c_strAt (hW : WFG G) {i : Nat} (hi : i < 32) {j : Int32} (hj : 0 ≤ j.toInt ∧ j.toInt < ((sLen.getD i 0 : Nat) : Int)) : Ct G yJ0_charAt_5068e cJ0_charAt_5068e 2 (some .char) 3 90 [.ref (gaK G i), .int j] M (some (.int ((sByt.getD i []).getD j.toNatClampNeg 0))) M := by
  have hb := sk_all i hi _ (sk_at hi hj)
  refine ct_i hW (by decide +kernel) (Nat.le_of_ble_eq_true rfl) (fun w h hr => ?_)
  have h : Rb G cJ0_charAt_5068e RJ0 2 3 90 w := h
  show w M 0 [(0, .ref (gaK G i)), (1, .int j)] []
  refine h.aload_n 0 dJ0_charAt_5068e_0 rfl ?_
  refine h.callVK (As := []) (rest := []) hi (c_isLat hW hi) lm_J0_isLatin1_aae02 lv_m_J0_isLatin1_aae02 ll_RJ0_492 rfl rfl rfl (by decide) (by decide) dJ0_charAt_5068e_1 rfl ?_
  refine h.if_eq (tgt := 16) dJ0_charAt_5068e_4 (by decide) (fun q => absurd q (by decide)) (fun _ => ?_)
  refine h.aload_n 0 dJ0_charAt_5068e_7 rfl ?_
  refine h.s_val hi dJ0_charAt_5068e_8 ?_
  refine h.iload_n 1 dJ0_charAt_5068e_11 rfl ?_
  refine h.callS (As := [.ref (gaV G i), .int j]) (rest := []) (c_lat hW hi hj) lm_J1_charAt_3b067 ls_m_J1_charAt_3b067 ll_RJ0_495 rfl rfl (by decide) (by decide) dJ0_charAt_5068e_12 rfl ?_
  exact hr _ _ hb.2 dJ0_charAt_5068e_15
theorem c_strLen (hW : WFG G) {i : Nat} (hi : i < 32) : Ct G yJ0_length_8abf5 cJ0_length_8abf5 1 (some .int) 1 30 [.ref (gaK G i)] M (some (.int (Int32.ofNat (sLen.getD i 0)))) M := by
  refine ct_i hW (by decide +kernel) (Nat.le_of_ble_eq_true rfl) (fun w h hr => ?_)
  have h : Rb G cJ0_length_8abf5 RJ0 1 1 30 w := h
  show w M 0 [(0, .ref (gaK G i))] []
  refine h.aload_n 0 dJ0_length_8abf5_0 rfl ?_
  refine h.s_val hi dJ0_length_8abf5_1 ?_
  refine h.s_len hi dJ0_length_8abf5_4 ?_
  refine h.aload_n 0 dJ0_length_8abf5_5 rfl ?_
  refine h.callVK (As := []) (rest := [.int (Int32.ofNat (sLen.getD i 0))]) hi (c_coder hW hi) lm_J0_coder_7d493 lv_m_J0_coder_7d493 ll_RJ0_335 rfl rfl rfl (Nat.le_of_ble_eq_true rfl) (by decide) dJ0_length_8abf5_6 rfl ?_
  refine h.ishr dJ0_length_8abf5_9 ?_
  have e9 : Int32.ofNat (sLen.getD i 0) >>> ((0 : Int32) &&& 31) = Int32.ofNat (sLen.getD i 0) := by
    have : ∀ i, i < 32 → Int32.ofNat (sLen.getD i 0) >>> ((0 : Int32) &&& 31) = Int32.ofNat (sLen.getD i 0) := by decide +kernel
    exact this i hi
  rw [e9]
  exact hr _ _ rfl dJ0_length_8abf5_10
end STRC
section STRR
variable {G : Ctx} {cc : ByteArray} {own : String} {nL F Lo : Nat} {w : Mem → Nat → List (Nat × Value) → List Value → Prop} {M : Mem} {pc : Nat} {ls : List (Nat × Value)} {st : List Value}
theorem Rb.strLen (h : Rb G cc own nL F Lo w) {s idx : Nat} (hs16 : s < 32) (hl : Cond.methodLink own idx yJ0_length_8abf5 ∈ gw) (hr : (st.map fun v => v.category).sum ≤ 8) (hF : 12 ≤ F ∧ 400 ≤ Lo) (d : decode cc pc = .ok (.invokevirtual idx, 3)) (kk : w M (pc + 3) ls (.int (Int32.ofNat (sLen.getD s 0)) :: st)) : w M pc ls (.ref (gaK G s) :: st) :=
  h.callVK (As := []) (rest := st) hs16 (c_strLen h.wf hs16) lm_J0_length_8abf5 lv_m_J0_length_8abf5 hl rfl rfl rfl hr (by omega) d rfl kk
theorem Rb.strAt (h : Rb G cc own nL F Lo w) {s idx : Nat} {i : Int32} (hs16 : s < 32) (hi : 0 ≤ i.toInt ∧ i.toInt < ((sLen.getD s 0 : Nat) : Int)) (hl : Cond.methodLink own idx yJ0_charAt_5068e ∈ gw) (hr : (st.map fun v => v.category).sum ≤ 8) (hF : 12 ≤ F ∧ 400 ≤ Lo) (d : decode cc pc = .ok (.invokevirtual idx, 3)) (kk : w M (pc + 3) ls (.int ((sByt.getD s []).getD i.toNatClampNeg 0) :: st)) : w M pc ls (.int i :: .ref (gaK G s) :: st) :=
  h.callVK (As := [.int i]) (rest := st) hs16 (c_strAt h.wf hs16 hi) lm_J0_charAt_5068e lv_m_J0_charAt_5068e hl rfl rfl rfl hr (by omega) d rfl kk
end STRR
