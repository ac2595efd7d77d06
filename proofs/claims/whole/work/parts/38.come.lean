/-! What comes is put alike. -/
theorem put_ok {z p i : Int32} {A B C D h : Int} {c : CW} {r : Nat → Int32} {pn : Nat} {pk st sp : Int32} (hh : h = (r 14).toInt / z.toInt) (h0 : 0 ≤ h) (hS : Sc c r) (k2 : c 5 3 = p) (k3 : c 5 4 = i) (k4 : gF A r) (k5 : gN B C D r) (k6 : gQA C r) (k7 : gQS (r 2).toInt r) (k9 : aS c r) (k10 : aO c r) (k11 : aM c r) (k12 : c 6 7 = r 18) (k13 : aR c r) (h8 : ¬ r 8 = 0) (w1 : 0 ≤ (r 18).toInt ∧ (r 18).toInt ≤ h + 15) (w2 : r 21 = r 18 - r 17) (hpn : pn < 64) (hs1 : sp.toInt % 64 = pn) (hs2 : h ≤ sp.toInt) (hs3 : sp.toInt ≤ h + 15) (hp : 0 ≤ pk.toInt ∧ pk.toInt ≤ (r 2).toInt) (o1 : ¬ pn = ((r 18).toInt % 64).toNat → h ≤ (r 18).toInt → r (217 + ((r 18).toInt % 64).toNat) = r 18) (o2 : ¬ pn = (h % 64).toNat → r 14 = r 15 → (r (217 + (h % 64).toNat)).toInt = h) : Core z p i A B C D (if sp ≤ c 6 7 then uc (uc c 7 pn sp) 8 pn pk else uc (uc (uc (uc (uc c 7 pn sp) 8 pn pk) 6 3 (c 6 3 + imod (st - c 6 8) 256)) 6 7 sp) 6 8 st) (if r 18 < sp then rup (rup (rup (rup (rup (rup r (153 + pn) pk) (217 + pn) sp) 21 (sp - r 17)) 20 (r 20 + ((st - r 19) &&& 255))) 18 sp) 19 st else rup (rup r (153 + pn) pk) (217 + pn) sp) := by
  have g1 : ∀ k, k < 64 → rup (rup r (153 + pn) pk) (217 + pn) sp (153 + k) = if k = pn then pk else r (153 + k) := fun k hk => by
    by_cases e : k = pn
    · subst e; rw [if_pos rfl, rup_o (by omega), rup_s]
    · rw [if_neg e, rup_o (by omega), rup_o (by omega)]
  have g2 : ∀ k, k < 64 → rup (rup r (153 + pn) pk) (217 + pn) sp (217 + k) = if k = pn then sp else r (217 + k) := fun k hk => by
    by_cases e : k = pn
    · subst e; rw [if_pos rfl, rup_s]
    · rw [if_neg e, rup_o (by omega), rup_o (by omega)]
  have g3 : ∀ j, ¬ (153 ≤ j ∧ j < 281) → rup (rup r (153 + pn) pk) (217 + pn) sp j = r j := fun j hj => by
    rw [rup_o (by omega), rup_o (by omega)]
  have hS1 : Sc (uc (uc c 7 pn sp) 8 pn pk) (rup (rup r (153 + pn) pk) (217 + pn) sp) := ((((hS.uCa (d := 7) (by decide)).uCa (d := 8) (by decide)).uRa (by omega)).uRa (by omega))
  have hc1 : ∀ d k, ¬ (d = 7 ∨ d = 8) → uc (uc c 7 pn sp) 8 pn pk d k = c d k := fun d k hd => by rw [uc_o (by omega), uc_o (by omega)]
  have haS : aS (uc (uc c 7 pn sp) 8 pn pk) (rup (rup r (153 + pn) pk) (217 + pn) sp) := fun k hk => by
    rw [g1 k hk, g2 k hk]
    by_cases e : k = pn
    · subst e
      rw [if_pos rfl, if_pos rfl, uc_o (by omega), uc_s, uc_s]
      exact ⟨rfl, fun _ => rfl⟩
    · rw [if_neg e, if_neg e, uc_o (by omega), uc_o (by omega), uc_o (by omega), uc_o (by omega)]
      exact k9 k hk
  generalize uc (uc c 7 pn sp) 8 pn pk = c1 at *
  generalize rup (rup r (153 + pn) pk) (217 + pn) sp = r1 at *
  have hn64 : ∀ v : Int, (v % 64).toNat < 64 := fun v => by omega
  rw [k12]
  by_cases ht : r 18 < sp
  · have ht1 := Int32.lt_iff_toInt_lt.mp ht
    have hnle : ¬ sp ≤ r 18 := nle_lt.mpr ht
    rw [if_pos ht, if_neg hnle]
    have f1 : ∀ j, ¬ (j = 18 ∨ j = 19 ∨ j = 20 ∨ j = 21) → rup (rup (rup (rup r1 21 (sp - r 17)) 20 (r 20 + ((st - r 19) &&& 255))) 18 sp) 19 st j = r1 j := fun j hj => by
      rw [rup_o (by omega), rup_o (by omega), rup_o (by omega), rup_o (by omega)]
    have f18 : rup (rup (rup (rup r1 21 (sp - r 17)) 20 (r 20 + ((st - r 19) &&& 255))) 18 sp) 19 st 18 = sp := by rw [rup_o (by decide), rup_s]
    have f21 : rup (rup (rup (rup r1 21 (sp - r 17)) 20 (r 20 + ((st - r 19) &&& 255))) 18 sp) 19 st 21 = sp - r 17 := by rw [rup_o (by decide), rup_o (by decide), rup_o (by decide), rup_s]
    have fc : ∀ d k, ¬ (d = 6 ∨ d = 7 ∨ d = 8) → uc (uc (uc c1 6 3 (c 6 3 + imod (st - c 6 8) 256)) 6 7 sp) 6 8 st d k = c d k := fun d k hd => by
      rw [uc_o (by omega), uc_o (by omega), uc_o (by omega), hc1 d k (by omega)]
    have fr : ∀ j, ¬ (j = 18 ∨ j = 19 ∨ j = 20 ∨ j = 21) → ¬ (153 ≤ j ∧ j < 281) → rup (rup (rup (rup r1 21 (sp - r 17)) 20 (r 20 + ((st - r 19) &&& 255))) 18 sp) 19 st j = r j := fun j h1 h2 => by rw [f1 j h1, g3 j h2]
    have hScf : Sc (uc (uc (uc c1 6 3 (c 6 3 + imod (st - c 6 8) 256)) 6 7 sp) 6 8 st) (rup (rup (rup (rup r1 21 (sp - r 17)) 20 (r 20 + ((st - r 19) &&& 255))) 18 sp) 19 st) := by
      refine Sc.up (d := 6) (k := 8) (i := 19) ?_ rfl (by decide)
      refine Sc.uR (i := 18) ?_ (by decide)
      refine Sc.uC (d := 6) (k := 7) ?_ (by decide)
      refine Sc.up (d := 6) (k := 3) (i := 20) ?_ (by rw [hS.g20, hS.g19, imod256]) (by decide)
      exact hS1.uR (i := 21) (by decide)
    refine ⟨hScf, by rw [fc _ _ (by decide)]; exact k2, by rw [fc _ _ (by decide)]; exact k3, k4.cg (fun j hj => fr j ?_ ?_), k5.cg (fun j hj => fr j ?_ ?_), k6.cg (fun j hj => fr j (by omega) (by omega)), ⟨?_, fun k hk => ?_⟩, ?_, haS.cg (fun d k hd => by rw [uc_o (by omega), uc_o (by omega), uc_o (by omega)]) (fun j a b => f1 j (by omega)), k10.cg (fun k => fc _ _ (by decide)) (fun j hj => fr j (by omega) (by omega)), k11.cg (fun k => fc _ _ (by decide)) (fun j hj => fr j (by omega) (by omega)), fun _ => ?_, k13.cg (fc _ _ (by decide)) (fun j hj => fr j ?_ ?_)⟩
    · simp at hj; omega
    · simp at hj; omega
    · simp at hj; omega
    · simp at hj; omega
    · rw [fr 16 (by omega) (by omega), fr 2 (by omega) (by omega)]; exact k7.1
    · rw [fr 8 (by omega) (by omega), fr 2 (by omega) (by omega), f18, f1 (153 + k) (by omega), f1 (217 + k) (by omega), g1 k hk, g2 k hk]
      by_cases e : k = pn
      · rw [if_pos e, if_pos e]
        exact Or.inr ⟨h8, hp.1, hp.2, by omega, by omega, Int.le_refl _⟩
      · rw [if_neg e, if_neg e]
        rcases k7.2 k hk with q | ⟨q1, q2, q3, q4, q5, q6⟩
        · exact Or.inl q
        · exact Or.inr ⟨q1, q2, q3, q4, q5, by omega⟩
    · intro _
      have i1 := hn64 sp.toInt
      have i2 := hn64 h
      rw [fr 14 (by omega) (by omega), fr 15 (by omega) (by omega), fr 17 (by omega) (by omega), f18, f21, ← hh, f1 (217 + (sp.toInt % 64).toNat) (by omega), f1 (217 + (h % 64).toNat) (by omega), g2 _ i1, g2 _ i2]
      refine ⟨⟨by omega, hs3⟩, rfl, fun _ => ?_, fun e => ?_⟩
      · rw [if_pos (by omega)]
      · by_cases q : (h % 64).toNat = pn
        · rw [if_pos q]; omega
        · rw [if_neg q]
          exact o2 (fun w => q w.symm) e
    · rw [f18, uc_o (by decide), uc_s]
    · simp at hj; omega
    · simp at hj; omega
  · have ht1 : ¬ (r 18).toInt < sp.toInt := fun e => ht (Int32.lt_iff_toInt_lt.mpr e)
    rw [if_neg ht, if_pos (nlt_le.mp ht)]
    refine ⟨hS1, by rw [hc1 _ _ (by decide)]; exact k2, by rw [hc1 _ _ (by decide)]; exact k3, k4.cg (fun j hj => g3 j ?_), k5.cg (fun j hj => g3 j ?_), k6.cg (fun j hj => g3 j (by omega)), ⟨?_, fun k hk => ?_⟩, ?_, haS, k10.cg (fun k => hc1 _ _ (by decide)) (fun j hj => g3 j (by omega)), k11.cg (fun k => hc1 _ _ (by decide)) (fun j hj => g3 j (by omega)), fun _ => ?_, k13.cg (hc1 _ _ (by decide)) (fun j hj => g3 j ?_)⟩
    · simp at hj; omega
    · simp at hj; omega
    · rw [g3 16 (by omega), g3 2 (by omega)]; exact k7.1
    · rw [g3 8 (by omega), g3 2 (by omega), g3 18 (by omega), g1 k hk, g2 k hk]
      by_cases e : k = pn
      · rw [if_pos e, if_pos e]
        exact Or.inr ⟨h8, hp.1, hp.2, by omega, by omega, by omega⟩
      · rw [if_neg e, if_neg e]
        exact k7.2 k hk
    · intro _
      have i1 := hn64 (r 18).toInt
      have i2 := hn64 h
      rw [g3 14 (by omega), g3 15 (by omega), g3 17 (by omega), g3 18 (by omega), g3 21 (by omega), ← hh, g2 _ i1, g2 _ i2]
      refine ⟨w1, w2, fun e => ?_, fun e => ?_⟩
      · by_cases q : ((r 18).toInt % 64).toNat = pn
        · rw [if_pos q]
          exact Int32.toInt_inj.mp (by omega)
        · rw [if_neg q]
          exact o1 (fun w => q w.symm) e
      · by_cases q : (h % 64).toNat = pn
        · rw [if_pos q]; omega
        · rw [if_neg q]
          exact o2 (fun w => q w.symm) e
    · rw [g3 18 (by omega), hc1 _ _ (by decide)]
      exact k12
    · simp at hj; omega
theorem wrap_ok {z pk : Int32} {c : CW} {r : Nat → Int32} {h : Int} (hS : Sc c r) (hz : 1 ≤ z.toInt ∧ z.toInt ≤ 8) (h14 : 0 ≤ (r 14).toInt) (hb : (r 14).toInt ≤ 1000000) (hh : h = (r 14).toInt / z.toInt) (hp : 0 ≤ pk.toInt) : ∃ (pn : Nat) (a : Int32), pn < 64 ∧ (pn : Int) = pk.toInt % 64 ∧ imod pk 64 = Int32.ofNat pn ∧ pk - pk / 64 * 64 = Int32.ofNat pn ∧ iby (c 6 0) z = r 14 / z ∧ (r 14 / z).toInt = h ∧ 0 ≤ h ∧ imod (imod pk 64 - iby (c 6 0) z) 64 = a ∧ ahR z pk r = a ∧ a.toInt = (pn - h) % 64 ∧ (r 14 / z + a).toInt = h + a.toInt := by
  have e64 : (64 : Int32).toInt = 64 := rfl
  have hzn : ¬ z = 0 := fun e => by rw [e] at hz; exact absurd hz (by decide)
  have hpm := Int.emod_nonneg pk.toInt (show (64 : Int) ≠ 0 by decide)
  have hpl := Int.emod_lt_of_pos pk.toInt (show (0 : Int) < 64 by decide)
  have y0 : (imod pk 64).toInt = pk.toInt % 64 := by rw [ti_mod (by decide), e64]
  have y1 : imod pk 64 = Int32.ofNat (pk.toInt % 64).toNat := by
    rw [nat_of (a := imod pk 64) (by omega), y0]
  have y2 : pk - pk / 64 * 64 = Int32.ofNat (pk.toInt % 64).toNat := by rw [← y1, imod_rem hp (by decide)]
  have yt : (Int32.ofNat (pk.toInt % 64).toNat).toInt = pk.toInt % 64 := by rw [Int32.toInt_ofNat_of_lt (by omega)]; omega
  have hs : iby (c 6 0) z = r 14 / z := by unfold iby; rw [if_neg hzn, hS.g14]
  have ht : (r 14 / z).toInt = h := by rw [ti_div h14 (by omega), hh]
  have h0 : 0 ≤ h := by rw [hh]; exact Int.ediv_nonneg h14 (by omega)
  have hle : h ≤ (r 14).toInt := by rw [hh]; exact Int.ediv_le_self _ h14
  have ec : (imod (imod pk 64 - iby (c 6 0) z) 64).toInt = (pk.toInt % 64 - h) % 64 := by
    rw [ti_mod (by decide), e64, hs, y1, ti_sub (by rw [yt, ht]; omega) (by rw [yt, ht]; omega), yt, ht]
  have er : (ahR z pk r).toInt = (pk.toInt % 64 - h) % 64 := by
    unfold ahR
    rw [y2]
    have q1 : (r 14 / z - r 14 / z / 64 * 64).toInt = h % 64 := by rw [ti_rem (by rw [ht]; exact h0) (by decide), e64, ht]
    have q2 : (Int32.ofNat (pk.toInt % 64).toNat - (r 14 / z - r 14 / z / 64 * 64)).toInt = pk.toInt % 64 - h % 64 := by rw [ti_sub (by rw [yt, q1]; omega) (by rw [yt, q1]; omega), yt, q1]
    have q3 : (Int32.ofNat (pk.toInt % 64).toNat - (r 14 / z - r 14 / z / 64 * 64) + 64).toInt = pk.toInt % 64 - h % 64 + 64 := by rw [ti_add (by rw [q2, e64]; omega) (by rw [q2, e64]; omega), q2, e64]
    rw [ti_rem (by rw [q3]; omega) (by decide), q3, e64]
    omega
  refine ⟨(pk.toInt % 64).toNat, ahR z pk r, by omega, by omega, y1, y2, hs, ht, h0, Int32.toInt_inj.mp (by rw [ec, er]), rfl, by rw [er]; omega, ?_⟩
  rw [ti_add (by rw [ht, er]; omega) (by rw [ht, er]; omega), ht]
def comeC (z pk st : Int32) (c : CW) : CW := takeC pk st z (if c 5 0 = 0 then startC pk st z (uc c 5 0 1) else c)
theorem takR_eq {z pk st : Int32} {r : Nat → Int32} {pn : Nat} {a : Int32} (y2 : pk - pk / 64 * 64 = Int32.ofNat pn) (hpn : pn < 64) (ha : ahR z pk r = a) : takR z pk st r = if a < 32 then (if a < 16 then (if r 18 < r 14 / z + a then rup (rup (rup (rup (rup (rup r (153 + pn) pk) (217 + pn) (r 14 / z + a)) 21 ((r 14 / z + a) - r 17)) 20 (r 20 + ((st - r 19) &&& 255))) 18 (r 14 / z + a)) 19 st else rup (rup r (153 + pn) pk) (217 + pn) (r 14 / z + a)) else rup r 5 (r 5 + 1)) else rup r 4 (r 4 + 1) := by
  unfold ahR at ha
  unfold takR
  rw [ha, y2, i153, i217, i_nn (by omega), i_nn (by omega)]
  have v18 : rup (rup r (153 + pn) pk) (217 + pn) (r 14 / z + a) 18 = r 18 := by rw [rup_o (by omega), rup_o (by omega)]
  have v17 : rup (rup r (153 + pn) pk) (217 + pn) (r 14 / z + a) 17 = r 17 := by rw [rup_o (by omega), rup_o (by omega)]
  have v20 : ∀ w, rup (rup (rup r (153 + pn) pk) (217 + pn) (r 14 / z + a)) 21 w 20 = r 20 := fun w => by rw [rup_o (by omega), rup_o (by omega), rup_o (by omega)]
  have v19 : ∀ w, rup (rup (rup r (153 + pn) pk) (217 + pn) (r 14 / z + a)) 21 w 19 = r 19 := fun w => by rw [rup_o (by omega), rup_o (by omega), rup_o (by omega)]
  simp only [v18, v17, v20, v19]
theorem takeC_eq {z pk st : Int32} {c : CW} {pn : Nat} {a sp : Int32} (y1 : imod pk 64 = Int32.ofNat pn) (hpn : pn < 64) (hs : iby (c 6 0) z = sp) (ha : imod (imod pk 64 - iby (c 6 0) z) 64 = a) : takeC pk st z c = if a < 32 then (if a ≤ 15 then (if sp + a ≤ c 6 7 then uc (uc c 7 pn (sp + a)) 8 pn pk else uc (uc (uc (uc (uc c 7 pn (sp + a)) 8 pn pk) 6 3 (c 6 3 + imod (st - c 6 8) 256)) 6 7 (sp + a)) 6 8 st) else uc c 6 2 (c 6 2 + 1)) else uc c 6 1 (c 6 1 + 1) := by
  unfold takeC
  rw [y1, hs] at ha
  simp only [hs, y1, ha, cput_nat hpn (show 64 < 2 ^ 31 by decide)]
theorem come_ok {z p i : Int32} {A B C D : Int} {c : CW} {r : Nat → Int32} {pk st : Int32} {q : Int} (hz : 1 ≤ z.toInt ∧ z.toInt ≤ 8) (hA : A ≤ 100000000) (hB : B ≤ 100000000) (h : Core z p i A B C D c r) (hp : 0 ≤ pk.toInt ∧ pk.toInt ≤ (r 2).toInt) (hd : gQD q (r 2).toInt r) (hq : 1 ≤ q) : Core z p i A B C D (comeC z pk st c) (comR z pk st r) ∧ gQD (q - 1) (r 2).toInt (comR z pk st r) ∧ (∀ j, ¬ (j = 4 ∨ j = 5 ∨ j = 8 ∨ (14 ≤ j ∧ j ≤ 21) ∨ (153 ≤ j ∧ j < 281)) → comR z pk st r j = r j) ∧ (∀ d k, d ≤ 4 → comeC z pk st c d k = c d k) ∧ (r 4).toInt + (r 5).toInt ≤ (comR z pk st r 4).toInt + (comR z pk st r 5).toInt := by
  obtain ⟨k1, k2, k3, k4, k5, k6, k7, k8, k9, k10, k11, k12, k13⟩ := h
  have hh5 := k5
  obtain ⟨n1, n2, n3, n4, n5, n6, n7, n8, n9, n10, n11, n12, n13, n14, n15, n16, n17, n18, n19, n20⟩ := hh5
  obtain ⟨f1, f2, f3, f4, f5, f6, f7⟩ := k4
  have e1 : (1 : Int32).toInt = 1 := rfl
  have e32 : (32 : Int32).toInt = 32 := rfl
  have e16 : (16 : Int32).toInt = 16 := rfl
  have e15 : (15 : Int32).toInt = 15 := rfl
  have k4' : gF A r := ⟨f1, f2, f3, f4, f5, f6, f7⟩
  have hr9 : ∀ (r0 : Nat → Int32) (j : Nat), ¬ (j = 4 ∨ j = 5 ∨ j = 8 ∨ (14 ≤ j ∧ j ≤ 21) ∨ (153 ≤ j ∧ j < 281)) → takR z pk st r0 j = r0 j := by
    intro r0 j hj
    have hn := ti_rem (a := pk) (b := 64) hp.1 (by decide)
    have e64 : (64 : Int32).toInt = 64 := rfl
    rw [e64] at hn
    have i1 : 153 ≤ ((153 : Int32) + (pk - pk / 64 * 64)).toNatClampNeg ∧ ((153 : Int32) + (pk - pk / 64 * 64)).toNatClampNeg < 217 := by
      unfold Int32.toNatClampNeg
      rw [idx_rng (a := 153) rfl (by decide) (by decide) (by omega) (by omega)]
      omega
    have i2 : 217 ≤ ((217 : Int32) + (pk - pk / 64 * 64)).toNatClampNeg ∧ ((217 : Int32) + (pk - pk / 64 * 64)).toNatClampNeg < 281 := by
      unfold Int32.toNatClampNeg
      rw [idx_rng (a := 217) rfl (by decide) (by decide) (by omega) (by omega)]
      omega
    unfold takR
    split
    · split
      · simp only []
        split
        · rw [rup_o (by omega), rup_o (by omega), rup_o (by omega), rup_o (by omega), rup_o (by omega), rup_o (by omega)]
        · rw [rup_o (by omega), rup_o (by omega)]
      · rw [rup_o (by omega)]
    · rw [rup_o (by omega)]
  by_cases h8 : r 8 = 0
  · have c8 : c 5 0 = 0 := by rw [k1.g8]; exact h8
    have hcR : comR z pk st r = takR z pk st (begR z pk st r) := by unfold comR; rw [if_pos h8]
    have hcC : comeC z pk st c = takeC pk st z (startC pk st z (uc c 5 0 1)) := by unfold comeC; rw [if_pos c8]
    have fb : ∀ j, ¬ (j = 8 ∨ (14 ≤ j ∧ j ≤ 21)) → begR z pk st r j = r j := fun j hj => by
      unfold begR
      rw [rup_o (by omega), rup_o (by omega), rup_o (by omega), rup_o (by omega), rup_o (by omega), rup_o (by omega), rup_o (by omega), rup_o (by omega), rup_o (by omega)]
    have fcb : ∀ d k, ¬ (d = 6 ∨ (d = 5 ∧ k = 0)) → startC pk st z (uc c 5 0 1) d k = c d k := fun d k hd => by
      unfold startC
      rw [uc_o (by omega), uc_o (by omega), uc_o (by omega), uc_o (by omega), uc_o (by omega), uc_o (by omega), uc_o (by omega), uc_o (by omega)]
    have hn : pk - pk / 64 * 64 = imod pk 64 := (imod_rem hp.1 (by decide)).symm
    have b14 : begR z pk st r 14 = z * imod pk 64 := by unfold begR; rw [hn]; simp [rup]
    have b15 : begR z pk st r 15 = z * imod pk 64 := by unfold begR; rw [hn]; simp [rup]
    have b8 : begR z pk st r 8 = 1 := by unfold begR; simp [rup]
    have b16 : begR z pk st r 16 = pk := by unfold begR; simp [rup]
    have b17 : begR z pk st r 17 = imod pk 64 := by unfold begR; rw [hn]; simp [rup]
    have b18 : begR z pk st r 18 = imod pk 64 := by unfold begR; rw [hn]; simp [rup]
    have b21 : begR z pk st r 21 = 0 := by unfold begR; simp [rup]
    have s67 : startC pk st z (uc c 5 0 1) 6 7 = imod pk 64 := by unfold startC; simp [uc]
    have hSb : Sc (startC pk st z (uc c 5 0 1)) (begR z pk st r) := by
      unfold startC begR
      rw [hn]
      refine Sc.uR (i := 21) ?_ (by decide)
      refine Sc.up (d := 6) (k := 3) (i := 20) ?_ rfl (by decide)
      refine Sc.up (d := 6) (k := 8) (i := 19) ?_ rfl (by decide)
      refine Sc.uC (d := 6) (k := 7) ?_ (by decide)
      refine Sc.uR (i := 18) ?_ (by decide)
      intro g hg
      have hm : ∀ g ∈ scl, uc (uc (uc (uc (uc c 5 0 1) 6 6 (imod pk 64)) 6 4 pk) 6 5 (z * imod pk 64)) 6 0 (z * imod pk 64) g.1 g.2.1 = uc (uc (uc (uc (uc c 6 0 (z * imod pk 64)) 5 0 1) 6 4 pk) 6 5 (z * imod pk 64)) 6 6 (imod pk 64) g.1 g.2.1 := by
        intro g _
        simp only [uc]
        by_cases q1 : g.1 = 6 ∧ g.2.1 = 0
        · simp [q1.1, q1.2]
        · by_cases q2 : g.1 = 6 ∧ g.2.1 = 6
          · simp [q2.1, q2.2]
          · simp [q1, q2]
      rw [hm g hg]
      refine Sc.up (d := 6) (k := 6) (i := 17) ?_ rfl (by decide) g hg
      refine Sc.up (d := 6) (k := 5) (i := 15) ?_ rfl (by decide)
      refine Sc.up (d := 6) (k := 4) (i := 16) ?_ rfl (by decide)
      refine Sc.up (d := 5) (k := 0) (i := 8) ?_ rfl (by decide)
      exact Sc.up (d := 6) (k := 0) (i := 14) k1 rfl (by decide)
    have e64 : (64 : Int32).toInt = 64 := rfl
    have hpm := Int.emod_nonneg pk.toInt (show (64 : Int) ≠ 0 by decide)
    have hpl := Int.emod_lt_of_pos pk.toInt (show (0 : Int) < 64 by decide)
    have ym : (imod pk 64).toInt = pk.toInt % 64 := by rw [ti_mod (by decide), e64]
    have hmul0 : 0 ≤ z.toInt * (pk.toInt % 64) := Int.mul_nonneg (by omega) hpm
    have hmul8 : z.toInt * (pk.toInt % 64) ≤ 8 * (pk.toInt % 64) := Int.mul_le_mul_of_nonneg_right hz.2 hpm
    have t14 : (begR z pk st r 14).toInt = z.toInt * (pk.toInt % 64) := by
      rw [b14, ti_mul (by rw [ym]; omega) (by rw [ym]; omega), ym]
    have hdiv : (begR z pk st r 14).toInt / z.toInt = pk.toInt % 64 := by rw [t14, Int.mul_ediv_cancel_left _ (by omega)]
    obtain ⟨pn, a, w1, w2, w3, w4, w5, w6, w7, w8, w9, w10, w11⟩ := wrap_ok (pk := pk) (h := pk.toInt % 64) hSb hz (by rw [t14]; exact hmul0) (by rw [t14]; omega) hdiv.symm hp.1
    have ha0 : a.toInt = 0 := by rw [w10, w2]; simp
    have lt32 : a < 32 := Int32.lt_iff_toInt_lt.mpr (by rw [ha0, e32]; decide)
    have lt16 : a < 16 := Int32.lt_iff_toInt_lt.mpr (by rw [ha0, e16]; decide)
    have le15 : a ≤ 15 := Int32.le_iff_toInt_le.mpr (by rw [ha0, e15]; decide)
    have hR := takR_eq (z := z) (st := st) w4 w1 w9
    have hC := takeC_eq (z := z) (st := st) w3 w1 w5 w8
    rw [if_pos lt32, if_pos lt16] at hR
    rw [if_pos lt32, if_pos le15] at hC
    have frames : ∀ j, ¬ (j = 4 ∨ j = 5 ∨ j = 8 ∨ (14 ≤ j ∧ j ≤ 21) ∨ (153 ≤ j ∧ j < 281)) → comR z pk st r j = r j := fun j hj => by rw [hcR, hr9 _ j hj, fb j (by omega)]
    have hcore : Core z p i A B C D (comeC z pk st c) (comR z pk st r) := by
      rw [hcR, hcC, hR, hC]
      have hempty : ∀ k, k < 64 → r (153 + k) = -1 ∧ r (217 + k) = -1 := fun k hk => by
        rcases k7.2 k hk with g | g
        · exact g
        · exact absurd h8 g.1
      refine put_ok (h := pk.toInt % 64) hdiv.symm w7 hSb (by rw [fcb _ _ (by omega)]; exact k2) (by rw [fcb _ _ (by omega)]; exact k3) (k4'.cg (fun j hj => fb j ?_)) ?_ (k6.cg (fun j hj => fb j (by omega))) ⟨?_, fun k hk => Or.inl ?_⟩ (k9.cg (fun d k hd => fcb d k (by omega)) (fun j a b => fb j (by omega))) (k10.cg (fun k => fcb _ _ (by omega)) (fun j hj => fb j (by omega))) (k11.cg (fun k => fcb _ _ (by omega)) (fun j hj => fb j (by omega))) (by rw [s67, b18]) ?_ (by rw [b8]; decide) (by rw [b18, ym]; omega) (by rw [b21, b18, b17]; exact Int32.sub_self _ |>.symm) w1 ?_ ?_ ?_ (by rw [fb 2 (by omega)]; exact hp) ?_ ?_
      · simp at hj; omega
      · unfold gN
        rw [fb 6 (by omega), fb 7 (by omega), fb 9 (by omega), fb 11 (by omega), fb 12 (by omega), fb 23 (by omega), fb 30 (by omega), fb 32 (by omega), b8, t14]
        have t15 : (begR z pk st r 15).toInt = z.toInt * (pk.toInt % 64) := by rw [b15, ← b14, t14]
        rw [t15]
        exact ⟨n1, n2, n3, n4, n5, Or.inr (Or.inl rfl), n7, n8, n9, n10, n11, n12, hmul0, by omega, hmul0, Int.le_refl _, n17, n18, n19, n20⟩
      · rw [b16, fb 2 (by omega)]; exact hp
      · rw [fb _ (by omega), fb _ (by omega)]; exact hempty k hk
      · unfold aR
        rw [fcb _ _ (by omega), fb 30 (by omega), b14, b15]
        rcases k13 with g | g
        · exact Or.inl g
        · exact Or.inr ⟨g.1, g.2.1, Or.inr rfl⟩
      · rw [w11, ha0]; omega
      · rw [w11, ha0]; omega
      · rw [w11, ha0]; omega
      · intro g
        rw [b18, ym] at g
        omega
      · intro g
        omega
    have g4 : comR z pk st r 4 = r 4 := by
      rw [hcR, hR]
      split
      · rw [rup_o (by omega), rup_o (by omega), rup_o (by omega), rup_o (by omega), rup_o (by omega), rup_o (by omega), fb 4 (by omega)]
      · rw [rup_o (by omega), rup_o (by omega), fb 4 (by omega)]
    have g5 : comR z pk st r 5 = r 5 := by
      rw [hcR, hR]
      split
      · rw [rup_o (by omega), rup_o (by omega), rup_o (by omega), rup_o (by omega), rup_o (by omega), rup_o (by omega), fb 5 (by omega)]
      · rw [rup_o (by omega), rup_o (by omega), fb 5 (by omega)]
    refine ⟨hcore, ?_, frames, fun d k hd => ?_, by rw [g4, g5]; omega⟩
    · exact hd.cg (by omega) g4 g5
    · rw [hcC, take_o (by omega), fcb d k (by omega)]
  · have c8 : ¬ c 5 0 = 0 := by rw [k1.g8]; exact h8
    have hcR : comR z pk st r = takR z pk st r := by unfold comR; rw [if_neg h8]
    have hcC : comeC z pk st c = takeC pk st z c := by unfold comeC; rw [if_neg c8]
    obtain ⟨pn, a, w1, w2, w3, w4, w5, w6, w7, w8, w9, w10, w11⟩ := wrap_ok (pk := pk) (h := (r 14).toInt / z.toInt) k1 hz n13 (by omega) rfl hp.1
    have hR := takR_eq (z := z) (st := st) w4 w1 w9
    have hC := takeC_eq (z := z) (st := st) w3 w1 w5 w8
    obtain ⟨t1, t2, t3, t4⟩ := k8 h8
    obtain ⟨d1, d2, d3⟩ := hd
    have tt4 : (r 4 + 1).toInt = (r 4).toInt + 1 := by rw [ti_add (by omega) (by omega), e1]
    have tt5 : (r 5 + 1).toInt = (r 5).toInt + 1 := by rw [ti_add (by omega) (by omega), e1]
    refine ⟨?_, ?_, fun j hj => by rw [hcR, hr9 _ j hj], fun d k hd => by rw [hcC, take_o (by omega)], ?_⟩
    · rw [hcR, hcC, hR, hC]
      by_cases g32 : a < 32
      · rw [if_pos g32, if_pos g32]
        by_cases g16 : a < 16
        · have g15 : a ≤ 15 := by
            have := Int32.lt_iff_toInt_lt.mp g16
            rw [e16] at this
            exact Int32.le_iff_toInt_le.mpr (by rw [e15]; omega)
          have g16' := Int32.lt_iff_toInt_lt.mp g16
          rw [e16] at g16'
          rw [if_pos g16, if_pos g15]
          exact put_ok (h := (r 14).toInt / z.toInt) rfl w7 k1 k2 k3 k4' k5 k6 k7 k9 k10 k11 (k12 h8) k13 h8 t1 t2 w1 (by rw [w11, w10]; omega) (by rw [w11]; omega) (by rw [w11]; omega) hp (fun _ => t3) (fun _ => t4)
        · have g15 : ¬ a ≤ 15 := fun g => by
            have := Int32.le_iff_toInt_le.mp g
            rw [e15] at this
            exact g16 (Int32.lt_iff_toInt_lt.mpr (by rw [e16]; omega))
          rw [if_neg g16, if_neg g15]
          have fr : ∀ j, ¬ j = 5 → rup r 5 (r 5 + 1) j = r j := fun j hj => rup_o hj
          have fc : ∀ d k, ¬ d = 6 → uc c 6 2 (c 6 2 + 1) d k = c d k := fun d k hd => uc_o (by omega)
          refine ⟨k1.up (d := 6) (k := 2) (i := 5) (by rw [k1.g5]) (by decide), by rw [fc _ _ (by omega)]; exact k2, by rw [fc _ _ (by omega)]; exact k3, k4'.cg (fun j hj => fr j ?_), k5.cg (fun j hj => fr j ?_), k6.cg (fun j hj => fr j (by omega)), ?_, k8.cg (fun j hj => fr j (by omega)), k9.cg (fun d k hd => fc d k (by omega)) (fun j a b => fr j (by omega)), k10.cg (fun k => fc _ _ (by omega)) (fun j hj => fr j (by omega)), k11.cg (fun k => fc _ _ (by omega)) (fun j hj => fr j (by omega)), k12.cg (uc_o (by omega)) (fr _ (by omega)) (fr _ (by omega)), k13.cg (fc _ _ (by omega)) (fun j hj => fr j ?_)⟩
          · simp at hj; omega
          · simp at hj; omega
          · rw [fr 2 (by omega)]
            exact k7.cg (Int.le_refl _) (fun j hj => fr j (by omega))
          · simp at hj; omega
      · rw [if_neg g32, if_neg g32]
        have fr : ∀ j, ¬ j = 4 → rup r 4 (r 4 + 1) j = r j := fun j hj => rup_o hj
        have fc : ∀ d k, ¬ d = 6 → uc c 6 1 (c 6 1 + 1) d k = c d k := fun d k hd => uc_o (by omega)
        refine ⟨k1.up (d := 6) (k := 1) (i := 4) (by rw [k1.g4]) (by decide), by rw [fc _ _ (by omega)]; exact k2, by rw [fc _ _ (by omega)]; exact k3, k4'.cg (fun j hj => fr j ?_), k5.cg (fun j hj => fr j ?_), k6.cg (fun j hj => fr j (by omega)), ?_, k8.cg (fun j hj => fr j (by omega)), k9.cg (fun d k hd => fc d k (by omega)) (fun j a b => fr j (by omega)), k10.cg (fun k => fc _ _ (by omega)) (fun j hj => fr j (by omega)), k11.cg (fun k => fc _ _ (by omega)) (fun j hj => fr j (by omega)), k12.cg (uc_o (by omega)) (fr _ (by omega)) (fr _ (by omega)), k13.cg (fc _ _ (by omega)) (fun j hj => fr j ?_)⟩
        · simp at hj; omega
        · simp at hj; omega
        · rw [fr 2 (by omega)]
          exact k7.cg (Int.le_refl _) (fun j hj => fr j (by omega))
        · simp at hj; omega
    · rw [hcR, hR]
      unfold gQD
      by_cases g32 : a < 32
      · rw [if_pos g32]
        by_cases g16 : a < 16
        · rw [if_pos g16]
          split
          · rw [rup_o (by omega), rup_o (by omega), rup_o (by omega), rup_o (by omega), rup_o (by omega), rup_o (by omega), rup_o (by omega), rup_o (by omega), rup_o (by omega), rup_o (by omega), rup_o (by omega), rup_o (by omega)]
            omega
          · rw [rup_o (by omega), rup_o (by omega), rup_o (by omega), rup_o (by omega)]
            omega
        · rw [if_neg g16, rup_o (by omega), rup_s, tt5]
          omega
      · rw [if_neg g32, rup_s, rup_o (by omega), tt4]
        omega
    · rw [hcR, hR]
      by_cases g32 : a < 32
      · rw [if_pos g32]
        by_cases g16 : a < 16
        · rw [if_pos g16]
          split
          · rw [rup_o (by omega), rup_o (by omega), rup_o (by omega), rup_o (by omega), rup_o (by omega), rup_o (by omega), rup_o (by omega), rup_o (by omega), rup_o (by omega), rup_o (by omega), rup_o (by omega), rup_o (by omega)]
            omega
          · rw [rup_o (by omega), rup_o (by omega), rup_o (by omega), rup_o (by omega)]
            omega
        · rw [if_neg g16, rup_o (by omega), rup_s, tt5]
          omega
      · rw [if_neg g32, rup_s, rup_o (by omega), tt4]
        omega
