/-! Playing alike. -/
theorem hear_core {z p i : Int32} {A B C D : Int} {c c' : CW} {r r' : Nat → Int32} {on : Nat} {o g : Int32} (hz : 1 ≤ z.toInt ∧ z.toInt ≤ 8) (hB : B ≤ 100000000) (h : Core z p i A (B - 1000) C D c r) (h8 : r 8 = 2) (hon : (on : Int) = (r 6).toInt % 128) (hS : Sc c' r') (hr : ∀ j, ¬ (j = 6 ∨ j = 7 ∨ j = 13 ∨ j = 14 ∨ j = 30 ∨ j = 409 + on ∨ j = 537 + on) → r' j = r j) (v6 : r' 6 = r 6 + 1) (v7 : (r 7).toInt ≤ (r' 7).toInt ∧ (r' 7).toInt ≤ (r 7).toInt + 1) (v14 : r' 14 = r 14 + 1) (v30 : 0 ≤ (r' 30).toInt ∧ (r' 30).toInt ≤ 63) (vo : r' (409 + on) = o) (vg : r' (537 + on) = g) (ho : 0 ≤ o.toInt ∧ o.toInt ≤ 255) (hg : g = 0 ∨ g = 1) (hc : ∀ d k, ¬ (d = 9 ∨ (d = 10 ∧ k = on) ∨ (d = 6 ∧ k = 0)) → c' d k = c d k) (vc : c' 10 on = if g = 0 then o else o + 256) (v93 : c' 9 3 = r' 30) : Core z p i A B C D c' r' ∧ (r' 12).toInt + 1 ≤ (r' 6).toInt := by
  obtain ⟨k1, k2, k3, k4, k5, k6, k7, k8, k9, k10, k11, k12, k13⟩ := h
  obtain ⟨n1, n2, n3, n4, n5, n6, n7, n8, n9, n10, n11, n12, n13, n14, n15, n16, n17, n18, n19, n20⟩ := k5
  have e1 : (1 : Int32).toInt = 1 := rfl
  have t6 : (r 6 + 1).toInt = (r 6).toInt + 1 := by rw [ti_add (by omega) (by omega), e1]
  have t14 : (r 14 + 1).toInt = (r 14).toInt + 1 := by rw [ti_add (by omega) (by omega), e1]
  have m1 := Int.emod_lt_of_pos (r 6).toInt (show (0 : Int) < 128 by decide)
  have n80 : ¬ r 8 = 0 := by rw [h8]; decide
  have on128 : on < 128 := by omega
  refine ⟨⟨hS, by rw [hc _ _ (by omega)]; exact k2, by rw [hc _ _ (by omega)]; exact k3, k4.cg (fun j hj => hr j ?_), ?_, fun k hk => ?_, ?_, ?_, k9.cg (fun d k hd => hc d k (by omega)) (fun j a b => hr j (by omega)), fun k hk hlt => ?_, k11.cg (fun k => hc _ _ (by omega)) (fun j hj => hr j (by omega)), k12.cg (hc _ _ (by omega)) (hr _ (by omega)) (hr _ (by omega)), Or.inl v93⟩, ?_⟩
  · simp at hj; omega
  · unfold gN
    rw [hr 8 (by omega), hr 9 (by omega), hr 11 (by omega), hr 12 (by omega), hr 15 (by omega), hr 23 (by omega), hr 32 (by omega), v6, v14, t6, t14]
    exact ⟨by omega, n2, by omega, by omega, by omega, n6, n7, n8, n9, n10, n11, by omega, by omega, by omega, n15, by omega, v30.1, v30.2, n19, n20⟩
  · rw [hr (281 + k) (by omega)]
    by_cases e : k = on
    · subst e
      rw [vo, vg]
      exact ⟨(k6 k hk).1, ho, hg⟩
    · rw [hr (409 + k) (by omega), hr (537 + k) (by omega)]
      exact k6 k hk
  · rw [hr 2 (by omega)]
    exact k7.cg (Int.le_refl _) (fun j hj => hr j (by omega))
  · intro _
    obtain ⟨t1, t2, t3, t4⟩ := k8 n80
    have i1 : ((r 18).toInt % 64).toNat < 64 := by omega
    have hmono : (r 14).toInt / z.toInt ≤ ((r 14).toInt + 1) / z.toInt := Int.ediv_le_ediv (by omega) (by omega)
    rw [v14, hr 15 (by omega), hr 17 (by omega), hr 18 (by omega), hr 21 (by omega), hr (217 + ((r 18).toInt % 64).toNat) (by omega), t14]
    refine ⟨⟨t1.1, by omega⟩, t2, fun g => t3 (by omega), fun g => ?_⟩
    exfalso
    have g2 := congrArg Int32.toInt g
    rw [t14] at g2
    omega
  · rw [v6, t6] at hlt
    by_cases e : k = on
    · subst e
      rw [vo, vg, vc]
    · rw [hr (409 + k) (by omega), hr (537 + k) (by omega), hc _ _ (by omega)]
      refine k10 k hk ?_
      omega
  · rw [hr 12 (by omega), v6, t6]
    omega
theorem reset_ok {z p i : Int32} {A B C D : Int} {c c' : CW} {r : Nat → Int32} (h : Core z p i A B C D c r) (h30 : r 30 = 0) (h12 : (r 12).toInt + 1 ≤ (r 6).toInt) (hB : B ≤ 100000000) (hc : ∀ d k, ¬ (d = 9 ∧ k = 3) → c' d k = c d k) (h93 : c' 9 3 = 64) : Core z p i A B C D (empC (uc (uc c' 5 0 0) 5 9 (c' 5 9 + 1))) (empR (rup (rup r 8 0) 12 (r 12 + 1))) := by
  obtain ⟨k1, k2, k3, k4, k5, k6, k7, k8, k9, k10, k11, k12, k13⟩ := h
  obtain ⟨n1, n2, n3, n4, n5, n6, n7, n8, n9, n10, n11, n12, n13, n14, n15, n16, n17, n18, n19, n20⟩ := k5
  have e1 : (1 : Int32).toInt = 1 := rfl
  have e0 : (0 : Int32).toInt = 0 := rfl
  have t12 : (r 12 + 1).toInt = (r 12).toInt + 1 := by rw [ti_add (by omega) (by omega), e1]
  have fr : ∀ j, ¬ (j = 8 ∨ j = 12 ∨ (153 ≤ j ∧ j < 281)) → empR (rup (rup r 8 0) 12 (r 12 + 1)) j = r j := fun j hj => by
    unfold empR
    rw [if_neg (by omega), rup_o (by omega), rup_o (by omega)]
  have v8 : empR (rup (rup r 8 0) 12 (r 12 + 1)) 8 = 0 := by
    unfold empR
    rw [if_neg (by omega), rup_o (by omega), rup_s]
  have v12 : empR (rup (rup r 8 0) 12 (r 12 + 1)) 12 = r 12 + 1 := by
    unfold empR
    rw [if_neg (by omega), rup_s]
  have ve : ∀ j, 153 ≤ j → j < 281 → empR (rup (rup r 8 0) 12 (r 12 + 1)) j = -1 := fun j a b => if_pos ⟨a, b⟩
  have fc : ∀ d k, ¬ ((d = 9 ∧ k = 3) ∨ d = 7 ∨ (d = 6 ∧ k = 7) ∨ (d = 5 ∧ (k = 0 ∨ k = 9))) → empC (uc (uc c' 5 0 0) 5 9 (c' 5 9 + 1)) d k = c d k := fun d k hd => by
    unfold empC ucf
    rw [if_neg (by omega), uc_o (by omega), uc_o (by omega), uc_o (by omega), hc d k (by omega)]
  have w93 : empC (uc (uc c' 5 0 0) 5 9 (c' 5 9 + 1)) 9 3 = 64 := by
    unfold empC ucf
    rw [if_neg (by omega), uc_o (by omega), uc_o (by omega), uc_o (by omega), h93]
  have hS : Sc (empC (uc (uc c' 5 0 0) 5 9 (c' 5 9 + 1))) (empR (rup (rup r 8 0) 12 (r 12 + 1))) := by
    have q1 : Sc c' r := k1.cg (fun q hq => hc _ _ (by
      have hm : (scl.all fun q => !(q.1 == 9 && q.2.1 == 3)) = true := by decide
      have h1 := List.all_eq_true.mp hm q hq
      intro e
      simp [e.1, e.2] at h1)) (fun _ _ => rfl)
    have q2 : Sc (uc (uc c' 5 0 0) 5 9 (c' 5 9 + 1)) (rup (rup r 8 0) 12 (r 12 + 1)) :=
      Sc.up (d := 5) (k := 9) (i := 12) (Sc.up (d := 5) (k := 0) (i := 8) q1 rfl (by decide)) (by rw [q1.g12]) (by decide)
    refine q2.cg (fun q hq => ?_) (fun j hj => if_neg (by omega))
    have hm : (scl.all fun q => !(q.1 == 7) && !(q.1 == 6 && q.2.1 == 7)) = true := by decide
    have h1 := List.all_eq_true.mp hm q hq
    unfold empC ucf
    rw [if_neg (fun e => by simp [e.1] at h1), uc_o (fun e => by simp [e.1, e.2] at h1)]
  refine ⟨hS, by rw [fc _ _ (by omega)]; exact k2, by rw [fc _ _ (by omega)]; exact k3, k4.cg (fun j hj => fr j ?_), ?_, k6.cg (fun j hj => fr j (by omega)), ⟨?_, fun k hk => Or.inl ⟨ve _ (by omega) (by omega), ve _ (by omega) (by omega)⟩⟩, fun g => absurd v8 g, fun k hk => ?_, k10.cg (fun k => fc _ _ (by omega)) (fun j hj => fr j (by omega)), k11.cg (fun k => fc _ _ (by omega)) (fun j hj => fr j (by omega)), fun g => absurd v8 g, Or.inr ⟨w93, by rw [fr 30 (by omega)]; exact h30, Or.inl v8⟩⟩
  · simp at hj; omega
  · unfold gN
    rw [fr 6 (by omega), fr 7 (by omega), fr 9 (by omega), fr 11 (by omega), fr 14 (by omega), fr 15 (by omega), fr 23 (by omega), fr 30 (by omega), fr 32 (by omega), v8, v12, t12]
    exact ⟨n1, n2, n3, n4, n5, Or.inl rfl, n7, n8, n9, n10, by omega, by omega, n13, n14, n15, n16, n17, n18, n19, n20⟩
  · rw [fr 16 (by omega), fr 2 (by omega)]; exact k7.1
  · rw [ve _ (by omega) (by omega)]
    refine ⟨?_, fun g => absurd rfl g⟩
    unfold empC ucf
    rw [if_pos ⟨rfl, hk⟩]
theorem sub23 {z p i : Int32} {A B C D : Int} {c : CW} {r : Nat → Int32} (hB : B ≤ 100000000) (h : Core z p i A B C D c r) (h23 : ¬ r 23 < 1000) : Core z p i A (B - 1000) C D (uc c 5 5 (c 5 5 - 1000)) (rup r 23 (r 23 - 1000)) ∧ (rup r 23 (r 23 - 1000) 23).toInt = (r 23).toInt - 1000 := by
  obtain ⟨k1, k2, k3, k4, k5, k6, k7, k8, k9, k10, k11, k12, k13⟩ := h
  obtain ⟨n1, n2, n3, n4, n5, n6, n7, n8, n9, n10, n11, n12, n13, n14, n15, n16, n17, n18, n19, n20⟩ := k5
  have e1000 : (1000 : Int32).toInt = 1000 := rfl
  have g23 : ¬ (r 23).toInt < 1000 := fun g => h23 (Int32.lt_iff_toInt_lt.mpr g)
  have t23 : (r 23 - 1000).toInt = (r 23).toInt - 1000 := by rw [ti_sub (by omega) (by omega), e1000]
  have fr : ∀ j, ¬ j = 23 → rup r 23 (r 23 - 1000) j = r j := fun j hj => rup_o hj
  have fc : ∀ d k, ¬ (d = 5 ∧ k = 5) → uc c 5 5 (c 5 5 - 1000) d k = c d k := fun d k hd => uc_o hd
  refine ⟨⟨Sc.up (d := 5) (k := 5) (i := 23) k1 (by rw [k1.g23]) (by decide), by rw [fc _ _ (by omega)]; exact k2, by rw [fc _ _ (by omega)]; exact k3, k4.cg (fun j hj => fr j ?_), ?_, k6.cg (fun j hj => fr j (by omega)), ?_, k8.cg (fun j hj => fr j (by omega)), k9.cg (fun d k hd => fc d k (by omega)) (fun j a b => fr j (by omega)), k10.cg (fun k => fc _ _ (by omega)) (fun j hj => fr j (by omega)), k11.cg (fun k => fc _ _ (by omega)) (fun j hj => fr j (by omega)), k12.cg (fc _ _ (by omega)) (fr _ (by omega)) (fr _ (by omega)), k13.cg (fc _ _ (by omega)) (fun j hj => fr j ?_)⟩, by rw [rup_s, t23]⟩
  · simp at hj; omega
  · unfold gN
    rw [fr 6 (by omega), fr 7 (by omega), fr 8 (by omega), fr 9 (by omega), fr 11 (by omega), fr 12 (by omega), fr 14 (by omega), fr 15 (by omega), fr 30 (by omega), fr 32 (by omega), rup_s, t23]
    exact ⟨n1, by omega, by omega, n4, n5, n6, n7, n8, n9, n10, n11, n12, n13, n14, n15, n16, n17, n18, n19, n20⟩
  · rw [fr 2 (by omega)]
    exact k7.cg (Int.le_refl _) (fun j hj => fr j (by omega))
  · simp at hj; omega
theorem oct_eq {t rr : Nat} {M N : Mem} {L : LN} {x : Int32} (hW : LWf L) (hL : LineC M rr L) (hE : EnvM t N L) (hx : 0 ≤ x.toInt) : octL M rr x = octN N t x := by
  have hw := hW.2.2.2.1
  unfold octL octN
  rw [hL.1 7 (by decide), hE.1 7 (by decide), imod_rem hx (by omega)]
  have q := ti_rem (a := x) (b := L.1 7) hx (by omega)
  have q0 := Int.emod_nonneg x.toInt (show (L.1 7).toInt ≠ 0 by omega)
  have q1 := Int.emod_lt_of_pos x.toInt (show 0 < (L.1 7).toInt by omega)
  have qn : x - x / L.1 7 * L.1 7 = Int32.ofNat (x.toInt % (L.1 7).toInt).toNat := by
    rw [nat_of (a := x - x / L.1 7 * L.1 7) (by omega), q]
  rw [qn, i_nn (by omega)]
  have ha : aget M (rr + 1) 16 (Int32.ofNat (x.toInt % (L.1 7).toInt).toNat) = M.1 (rr + 1) (x.toInt % (L.1 7).toInt).toNat := by
    have := at_nat (M := M) (r := rr + 1) (n := 16) (k := (x.toInt % (L.1 7).toInt).toNat) (by omega) (by decide)
    rw [e_at _ (by decide)] at this
    injection this with this
    injection this
  rw [ha, hL.2.1 _ ⟨by omega, Or.inr (by omega)⟩, hE.2.1 _ ⟨by omega, Or.inr (by omega)⟩]
theorem octN_rng {t : Nat} {N : Mem} {x : Int32} : 0 ≤ (octN N t x).toInt ∧ (octN N t x).toInt ≤ 255 := by
  unfold octN
  rw [ti_and255]
  omega
theorem o_and {o : Int32} (h : 0 ≤ o.toInt ∧ o.toInt ≤ 255) : o &&& 255 = o ∧ (o + 256) &&& 255 = o := by
  have e : (256 : Int32).toInt = 256 := rfl
  refine ⟨Int32.toInt_inj.mp ?_, Int32.toInt_inj.mp ?_⟩
  · rw [ti_and255]; omega
  · rw [ti_and255, ti_add (by omega) (by omega), e]; omega
/-- the OCTET played so many ahead -/
theorem late_ok {z p i : Int32} {A B C D : Int} {c : CW} {r : Nat → Int32} {x n : Int32} (hB : B ≤ 100000000) (h : Core z p i A B C D c r) (hx : 0 ≤ x.toInt ∧ x.toInt ≤ 127) (hn : n.toInt = x.toInt + 1) : lateC x c = pbR n r ∧ 0 ≤ (pbR n r).toInt ∧ (pbR n r).toInt ≤ 255 := by
  obtain ⟨k1, k2, k3, k4, k5, k6, k7, k8, k9, k10, k11, k12, k13⟩ := h
  obtain ⟨n1, n2, n3, n4, n5, n6, n7, n8, n9, n10, n11, n12, n13, n14, n15, n16, n17, n18, n19, n20⟩ := k5
  unfold lateC pbR
  rw [k1.g6]
  have e128 : (128 : Int32).toInt = 128 := rfl
  have e1 : (1 : Int32).toInt = 1 := rfl
  have hmin := ti_min (a := r 6) (b := 128)
  rw [e128] at hmin
  by_cases hle : n ≤ r 6
  · have hle2 := Int32.le_iff_toInt_le.mp hle
    have hnk : ¬ imin (r 6) 128 ≤ x := fun g => by
      have := Int32.le_iff_toInt_le.mp g
      rw [hmin] at this
      split at this <;> omega
    rw [if_pos hle, if_neg hnk]
    have s1 : (r 6 - 1).toInt = (r 6).toInt - 1 := by rw [ti_sub (by omega) (by omega), e1]
    have s2 : (r 6 - 1 - x).toInt = (r 6).toInt - n.toInt := by rw [ti_sub (by omega) (by omega), s1]; omega
    have s3 : (r 6 - n).toInt = (r 6).toInt - n.toInt := by rw [ti_sub (by omega) (by omega)]
    have s4 : r 6 - 1 - x = r 6 - n := Int32.toInt_inj.mp (by rw [s2, s3])
    have m0 := Int.emod_nonneg ((r 6).toInt - n.toInt) (show (128 : Int) ≠ 0 by decide)
    have m1 := Int.emod_lt_of_pos ((r 6).toInt - n.toInt) (show (0 : Int) < 128 by decide)
    have q := ti_rem (a := r 6 - n) (b := 128) (by omega) (by decide)
    rw [e128, s3] at q
    have hk : imod (r 6 - 1 - x) 128 = Int32.ofNat (((r 6).toInt - n.toInt) % 128).toNat := by
      have q2 : (imod (r 6 - 1 - x) 128).toInt = ((r 6).toInt - n.toInt) % 128 := by rw [ti_mod (by decide), e128, s2]
      rw [nat_of (a := imod (r 6 - 1 - x) 128) (by omega), q2]
    have hi : ((409 : Int32) + ((r 6 - n) - (r 6 - n) / 128 * 128)).toNatClampNeg = 409 + (((r 6).toInt - n.toInt) % 128).toNat := by
      unfold Int32.toNatClampNeg
      rw [idx_rng (a := 409) rfl (by decide) (by decide) (by omega) (by omega), q]
      omega
    have kk : (((r 6).toInt - n.toInt) % 128).toNat < 128 := by omega
    have lt6 : (((((r 6).toInt - n.toInt) % 128).toNat : Nat) : Int) < (r 6).toInt := by omega
    rw [hk, hi, cget_nat kk (by decide), k10 _ kk lt6]
    have hr := k6 _ kk
    have ha := o_and hr.2.1
    refine ⟨?_, hr.2.1⟩
    split
    · exact ha.1
    · exact ha.2
  · have hle2 : ¬ n.toInt ≤ (r 6).toInt := fun g => hle (Int32.le_iff_toInt_le.mpr g)
    rw [if_neg hle, if_pos (Int32.le_iff_toInt_le.mpr (by rw [hmin]; split <;> omega))]
    exact ⟨rfl, by decide, by decide⟩
noncomputable def playRn (N : Mem) (t : Nat) (z : Int32) (r : Nat → Int32) : Nat → Int32 := @playR N t z r (Classical.propDecidable _)
theorem pl7_eq {o w f g : Int32} {q : Int32 → Int32} {r : Nat → Int32} {on : Nat} (h6 : 0 ≤ (r 6).toInt) (hon : (on : Int) = (r 6).toInt % 128) : pl7 o w f q g r = rup (rup (rup (rup (rup (rup (rup r 13 (r 13 + w)) 7 (r 7 + f)) 30 (q (r 30))) (409 + on) o) (537 + on) g) 6 (r 6 + 1)) 14 (r 14 + 1) := by
  have e128 : (128 : Int32).toInt = 128 := rfl
  have q1 := ti_rem (a := r 6) (b := 128) h6 (by decide)
  rw [e128] at q1
  have m1 := Int.emod_lt_of_pos (r 6).toInt (show (0 : Int) < 128 by decide)
  have hi : ((409 : Int32) + (r 6 - r 6 / 128 * 128)).toNatClampNeg = 409 + on := by
    unfold Int32.toNatClampNeg
    rw [idx_rng (a := 409) rfl (by decide) (by decide) (by omega) (by omega), q1]
    omega
  have hi2 : ((537 : Int32) + (r 6 - r 6 / 128 * 128)).toNatClampNeg = 537 + on := by
    unfold Int32.toNatClampNeg
    rw [idx_rng (a := 537) rfl (by decide) (by decide) (by omega) (by omega), q1]
    omega
  unfold pl7 pl4
  simp only []
  have g7 : rup r 13 (r 13 + w) 7 = r 7 := rup_o (by decide)
  have g30 : rup (rup r 13 (r 13 + w)) 7 (r 7 + f) 30 = r 30 := by rw [rup_o (by decide), rup_o (by decide)]
  have g6 : ∀ v, rup (rup (rup r 13 (r 13 + w)) 7 (r 7 + f)) 30 v 6 = r 6 := fun v => by rw [rup_o (by decide), rup_o (by decide), rup_o (by decide)]
  rw [g7, g30, g6, hi]
  have g6b : ∀ v, rup (rup (rup (rup r 13 (r 13 + w)) 7 (r 7 + f)) 30 v) (409 + on) o 6 = r 6 := fun v => by rw [rup_o (by omega), g6]
  rw [g6b, hi2]
  have g6c : ∀ v, rup (rup (rup (rup (rup r 13 (r 13 + w)) 7 (r 7 + f)) 30 v) (409 + on) o) (537 + on) g 6 = r 6 := fun v => by rw [rup_o (by omega), g6b]
  rw [g6c]
  have g14 : ∀ v, rup (rup (rup (rup (rup (rup r 13 (r 13 + w)) 7 (r 7 + f)) 30 v) (409 + on) o) (537 + on) g) 6 (r 6 + 1) 14 = r 14 := fun v => by
    rw [rup_o (by omega), rup_o (by omega), rup_o (by omega), rup_o (by omega), rup_o (by omega), rup_o (by omega)]
  rw [g14]
theorem play_ok {t rr : Nat} {M N : Mem} {L : LN} {p i : Int32} {A B C D : Int} {c : CW} {r : Nat → Int32} (hW : LWf L) (hA : A ≤ 100000000) (hB : B ≤ 100000000) (hL : LineC M rr L) (hE : EnvM t N L) (h : Core (L.1 0) p i A B C D c r) (h8 : r 8 = 2) (h23 : ¬ r 23 < 1000) : Core (L.1 0) p i A B C D (playC M rr c) (playRn N t (L.1 0) (rup r 23 (r 23 - 1000))) ∧ f_X11_play t (rset N (t + 8) (rup r 23 (r 23 - 1000))) = some ((), rset N (t + 8) (playRn N t (L.1 0) (rup r 23 (r 23 - 1000)))) ∧ (∀ j, ¬ (j = 6 ∨ j = 7 ∨ j = 8 ∨ j = 12 ∨ j = 13 ∨ j = 14 ∨ j = 23 ∨ j = 30 ∨ 153 ≤ j) → playRn N t (L.1 0) (rup r 23 (r 23 - 1000)) j = r j) ∧ (playRn N t (L.1 0) (rup r 23 (r 23 - 1000)) 23).toInt = (r 23).toInt - 1000 ∧ (∀ d k, d ≤ 4 → playC M rr c d k = c d k) ∧ (r 7).toInt ≤ (playRn N t (L.1 0) (rup r 23 (r 23 - 1000)) 7).toInt ∧ (r 12).toInt ≤ (playRn N t (L.1 0) (rup r 23 (r 23 - 1000)) 12).toInt := by
  have hz := hW.1
  rw [show r 7 = rup r 23 (r 23 - 1000) 7 from (rup_o (by decide)).symm, show r 12 = rup r 23 (r 23 - 1000) 12 from (rup_o (by decide)).symm]
  obtain ⟨hs, hs23⟩ := sub23 hB h h23
  have hfr0 : ∀ j, ¬ j = 23 → rup r 23 (r 23 - 1000) j = r j := fun j hj => rup_o hj
  have h8' : rup r 23 (r 23 - 1000) 8 = 2 := by rw [hfr0 8 (by decide)]; exact h8
  generalize hr1 : rup r 23 (r 23 - 1000) = r1 at *
  generalize hc1 : uc c 5 5 (c 5 5 - 1000) = c1 at *
  have hfc0 : ∀ d k, d ≤ 4 → c1 d k = c d k := fun d k hd => by rw [← hc1, uc_o (by omega)]
  clear h h8 h23 hr1
  have hh := hs
  obtain ⟨k1, k2, k3, k4, k5, k6, k7, k8, k9, k10, k11, k12, k13⟩ := hs
  obtain ⟨n1, n2, n3, n4, n5, n6, n7, n8, n9, n10, n11, n12, n13, n14, n15, n16, n17, n18, n19, n20⟩ := k5
  obtain ⟨f1, f2, f3, f4, f5, f6, f7⟩ := k4
  have n80 : ¬ r1 8 = 0 := by rw [h8']; decide
  obtain ⟨t1, t2, t3, t4⟩ := k8 n80
  have e64 : (64 : Int32).toInt = 64 := rfl
  have e128 : (128 : Int32).toInt = 128 := rfl
  have e1 : (1 : Int32).toInt = 1 := rfl
  have e0 : (0 : Int32).toInt = 0 := rfl
  have hd := ti_div (a := r1 14) (b := L.1 0) n13 (by omega)
  have hd0 : 0 ≤ (r1 14).toInt / (L.1 0).toInt := Int.ediv_nonneg n13 (by omega)
  generalize hh0 : (r1 14).toInt / (L.1 0).toInt = h0 at *
  have hsp : (r1 14 / L.1 0).toInt = h0 := hd
  have hsn : r1 14 / L.1 0 - r1 14 / L.1 0 / 64 * 64 = Int32.ofNat (h0 % 64).toNat := by
    have q := ti_rem (a := r1 14 / L.1 0) (b := 64) (by omega) (by decide)
    rw [e64, hsp] at q
    rw [nat_of (a := r1 14 / L.1 0 - r1 14 / L.1 0 / 64 * 64) (by omega), q]
  have hsm : imod (r1 14 / L.1 0) 64 = Int32.ofNat (h0 % 64).toNat := by rw [imod_rem (by omega) (by decide), hsn]
  have hn64 : (h0 % 64).toNat < 64 := by omega
  generalize hhn : (h0 % 64).toNat = hn at *
  have i153 : ((153 : Int32) + Int32.ofNat hn).toNatClampNeg = 153 + hn := by rw [i153, i_nn (by omega)]
  have i217 : ((217 : Int32) + Int32.ofNat hn).toNatClampNeg = 217 + hn := by rw [i217, i_nn (by omega)]
  have hon : (((r1 6).toInt % 128).toNat : Int) = (r1 6).toInt % 128 := by omega
  have on128 : ((r1 6).toInt % 128).toNat < 128 := by omega
  have hoc : imod (c1 9 0) 128 = Int32.ofNat ((r1 6).toInt % 128).toNat := by
    have q : (imod (c1 9 0) 128).toInt = (r1 6).toInt % 128 := by rw [ti_mod (by decide), e128, k1.g6]
    rw [nat_of (a := imod (c1 9 0) 128) (by omega), q]
  generalize hon' : ((r1 6).toInt % 128).toNat = on at *
  have hzn : ¬ L.1 0 = 0 := fun e => by rw [e] at hz; exact absurd hz (by decide)
  have hby : iby (c1 6 0) (L.1 0) = r1 14 / L.1 0 := by unfold iby; rw [if_neg hzn, k1.g14]
  have hw := hW.2.2.2.1
  have hfrm := hW.2.2.1
  have m16 : 0 ≤ (r1 16).toInt * (L.1 0).toInt := Int.mul_nonneg k7.1.1 (by omega)
  have m16b : (r1 16).toInt * (L.1 0).toInt ≤ (r1 16).toInt * 8 := Int.mul_le_mul_of_nonneg_left hz.2 k7.1.1
  have hI2 : (r1 16).toInt ≤ 100000 := by have := k7.1.2; omega
  have sh1 : (r1 16 * L.1 0).toInt = (r1 16).toInt * (L.1 0).toInt := ti_mul (by omega) (by omega)
  have sh2 : (r1 16 * L.1 0 + r1 14).toInt = (r1 16).toInt * (L.1 0).toInt + (r1 14).toInt := by rw [ti_add (by omega) (by omega), sh1]
  have sh3 : (r1 16 * L.1 0 + r1 14 - r1 15).toInt = (r1 16).toInt * (L.1 0).toInt + (r1 14).toInt - (r1 15).toInt := by rw [ti_sub (by omega) (by omega), sh2]
  have hsh : 0 ≤ (r1 16 * L.1 0 + r1 14 - r1 15).toInt := by rw [sh3]; omega
  have hth : thR (L.1 0) r1 ↔ r1 (217 + hn) = r1 14 / L.1 0 := by
    unfold thR
    rw [hsn, i153, i217]
    refine ⟨fun g => g.2, fun g => ⟨fun e => ?_, g⟩⟩
    rcases k7.2 hn hn64 with q | q
    · rw [q.2] at g
      have e2 : (-1 : Int32).toInt = -1 := rfl
      rw [← g, e2] at hsp
      omega
    · have e2 : (-1 : Int32).toInt = -1 := rfl
      have := q.2.1
      rw [e, e2] at this
      omega
  have hixe : ixR (L.1 0) r1 = r1 (153 + hn) * L.1 0 + (r1 14 - r1 14 / L.1 0 * L.1 0) := by
    unfold ixR
    rw [hsn, i153]
  have hix : thR (L.1 0) r1 → 0 ≤ (ixR (L.1 0) r1).toInt := fun g => by
    rw [hixe]
    have g2 := hth.mp g
    have hpk : 0 ≤ (r1 (153 + hn)).toInt ∧ (r1 (153 + hn)).toInt ≤ 100000 := by
      rcases k7.2 hn hn64 with q | q
      · exfalso
        rw [q.2] at g2
        have e2 : (-1 : Int32).toInt = -1 := rfl
        rw [← g2, e2] at hsp
        omega
      · have := q.2.2.1
        exact ⟨q.2.1, by omega⟩
    have q1 : 0 ≤ (r1 (153 + hn)).toInt * (L.1 0).toInt := Int.mul_nonneg hpk.1 (by omega)
    have q2 : (r1 (153 + hn)).toInt * (L.1 0).toInt ≤ (r1 (153 + hn)).toInt * 8 := Int.mul_le_mul_of_nonneg_left hz.2 hpk.1
    have q3 : (r1 14 - r1 14 / L.1 0 * L.1 0).toInt = (r1 14).toInt % (L.1 0).toInt := ti_rem n13 (by omega)
    have q4 := Int.emod_nonneg (r1 14).toInt (show (L.1 0).toInt ≠ 0 by omega)
    have q5 := Int.emod_lt_of_pos (r1 14).toInt (show 0 < (L.1 0).toInt by omega)
    have q6 : (r1 (153 + hn) * L.1 0).toInt = (r1 (153 + hn)).toInt * (L.1 0).toInt := ti_mul (by omega) (by omega)
    rw [ti_add (by omega) (by omega), q6, q3]
    omega
  have hplay : f_X11_play t (rset N (t + 8) r1) = some ((), rset N (t + 8) (playRn N t (L.1 0) r1)) :=
    @m_play N t r1 (L.1 0) (Classical.propDecidable _) (hE.1 0 (by decide)) (by omega) (by rw [hE.1 7 (by decide)]; omega) (by rw [hE.1 7 (by decide)]; omega) (by rw [hE.1 6 (by decide)]; omega) n1 n13 hsh hix
  have hhere : hereC (L.1 0) c1 = if r1 (217 + hn) = r1 14 / L.1 0 then ixR (L.1 0) r1 else -1 := by
    unfold hereC
    rw [hby, hsm, cget_nat hn64 (by decide), (k9 hn hn64).1]
    by_cases g : r1 (217 + hn) = r1 14 / L.1 0
    · rw [if_pos g, if_pos g, cget_nat hn64 (by decide), k1.g14, imod_rem n13 (by omega), hixe, (k9 hn hn64).2]
      intro e
      rw [g] at e
      have e2 : (-1 : Int32).toInt = -1 := rfl
      rw [e, e2] at hsp
      omega
    · rw [if_neg g, if_neg g]
  -- the shape of what the model plays
  have hfrM : ∀ o w f q g, ∀ j, ¬ (j = 6 ∨ j = 7 ∨ j = 13 ∨ j = 14 ∨ j = 30 ∨ j = 409 + on ∨ j = 537 + on) → pl7 o w f q g r1 j = r1 j := fun o w f q g j hj => by
    rw [pl7_eq n1 hon]
    rw [rup_o (by omega), rup_o (by omega), rup_o (by omega), rup_o (by omega), rup_o (by omega), rup_o (by omega), rup_o (by omega)]
  have hfrP : ∀ o w f q g, ∀ j, ¬ (j = 6 ∨ j = 7 ∨ j = 8 ∨ j = 12 ∨ j = 13 ∨ j = 14 ∨ j = 30 ∨ 153 ≤ j) → plR o w f q g r1 j = r1 j := fun o w f q g j hj => by
    unfold plR
    split
    · unfold empR
      rw [if_neg (by omega), rup_o (by omega), rup_o (by omega), rup_o (by omega), hfrM _ _ _ _ _ j (by omega)]
    · exact hfrM _ _ _ _ _ j (by omega)
  have hv : ∀ o w f q g, pl7 o w f q g r1 6 = r1 6 + 1 ∧ pl7 o w f q g r1 7 = r1 7 + f ∧ pl7 o w f q g r1 14 = r1 14 + 1 ∧ pl7 o w f q g r1 30 = q (r1 30) ∧ pl7 o w f q g r1 (409 + on) = o ∧ pl7 o w f q g r1 (537 + on) = g ∧ pl7 o w f q g r1 13 = r1 13 + w := fun o w f q g => by
    rw [pl7_eq n1 hon]
    refine ⟨?_, ?_, ?_, ?_, ?_, ?_, ?_⟩
    · rw [rup_o (by omega), rup_s]
    · rw [rup_o (by omega), rup_o (by omega), rup_o (by omega), rup_o (by omega), rup_o (by omega), rup_s]
    · rw [rup_s]
    · rw [rup_o (by omega), rup_o (by omega), rup_o (by omega), rup_o (by omega), rup_s]
    · rw [rup_o (by omega), rup_o (by omega), rup_o (by omega), rup_s]
    · rw [rup_o (by omega), rup_o (by omega), rup_s]
    · rw [rup_o (by omega), rup_o (by omega), rup_o (by omega), rup_o (by omega), rup_o (by omega), rup_o (by omega), rup_s]
  have hscP : ∀ o w f q g cx v93, Sc (uc (uc (uc (uc (uc (uc c1 10 on cx) 9 0 (r1 6 + 1)) 9 1 (r1 7 + f)) 9 3 v93) 9 2 (r1 13 + w)) 6 0 (r1 14 + 1)) (pl7 o w f q g r1) := fun o w f q g cx v93 => by
    rw [pl7_eq n1 hon]
    have q0 : Sc (uc (uc (uc (uc (uc (uc c1 9 2 (r1 13 + w)) 9 1 (r1 7 + f)) 9 3 v93) 10 on cx) 9 0 (r1 6 + 1)) 6 0 (r1 14 + 1)) (rup (rup (rup (rup (rup (rup (rup r1 13 (r1 13 + w)) 7 (r1 7 + f)) 30 (q (r1 30))) (409 + on) o) (537 + on) g) 6 (r1 6 + 1)) 14 (r1 14 + 1)) := by
      refine Sc.up (d := 6) (k := 0) (i := 14) ?_ rfl (by decide)
      refine Sc.up (d := 9) (k := 0) (i := 6) ?_ rfl (by decide)
      refine Sc.uRa (i := 537 + on) ?_ (by omega)
      refine Sc.uRa (i := 409 + on) ?_ (by omega)
      refine Sc.uCa (d := 10) ?_ (by decide)
      refine Sc.uR (i := 30) ?_ (by decide)
      refine Sc.uC (d := 9) (k := 3) ?_ (by decide)
      refine Sc.up (d := 9) (k := 1) (i := 7) ?_ rfl (by decide)
      exact Sc.up (d := 9) (k := 2) (i := 13) k1 rfl (by decide)
    refine q0.cg (fun g hg => ?_) (fun _ _ => rfl)
    simp only [uc]
    by_cases a1 : g.1 = 9 ∧ g.2.1 = 0
    · simp [a1.1, a1.2]
    · by_cases a2 : g.1 = 9 ∧ g.2.1 = 1
      · simp [a2.1, a2.2]
      · by_cases a3 : g.1 = 9 ∧ g.2.1 = 3
        · simp [a3.1, a3.2]
        · by_cases a4 : g.1 = 9 ∧ g.2.1 = 2
          · simp [a4.1, a4.2]
          · by_cases a5 : g.1 = 10 ∧ g.2.1 = on
            · simp [a5.1, a5.2]
            · simp [a1, a2, a3, a4, a5]
  have hfcP : ∀ cx f v93 w d k, ¬ (d = 9 ∨ (d = 10 ∧ k = on) ∨ (d = 6 ∧ k = 0)) → uc (uc (uc (uc (uc (uc c1 10 on cx) 9 0 (r1 6 + 1)) 9 1 (r1 7 + f)) 9 3 v93) 9 2 (r1 13 + w)) 6 0 (r1 14 + 1) d k = c1 d k := fun cx f v93 w d k hd => by
    rw [uc_o (by omega), uc_o (by omega), uc_o (by omega), uc_o (by omega), uc_o (by omega), uc_o (by omega)]
  have h93v : ∀ cx f v93 w, uc (uc (uc (uc (uc (uc c1 10 on cx) 9 0 (r1 6 + 1)) 9 1 (r1 7 + f)) 9 3 v93) 9 2 (r1 13 + w)) 6 0 (r1 14 + 1) 9 3 = v93 := fun cx f v93 w => by
    rw [uc_o (by omega), uc_o (by omega), uc_s]
  have h10v : ∀ cx f v93 w, uc (uc (uc (uc (uc (uc c1 10 on cx) 9 0 (r1 6 + 1)) 9 1 (r1 7 + f)) 9 3 v93) 9 2 (r1 13 + w)) 6 0 (r1 14 + 1) 10 on = cx := fun cx f v93 w => by
    rw [uc_o (by omega), uc_o (by omega), uc_o (by omega), uc_o (by omega), uc_o (by omega), uc_s]
  have hmon : ∀ o w f q g, (f = 0 ∨ f = 1) → (r1 7).toInt ≤ (plR o w f q g r1 7).toInt ∧ (r1 12).toInt ≤ (plR o w f q g r1 12).toInt := fun o w f q g hf => by
    have v7 : (r1 7).toInt ≤ (r1 7 + f).toInt := by
      rcases hf with e | e
      · rw [e, Int32.add_zero]; exact Int.le_refl _
      · rw [e, ti_add (by omega) (by omega), e1]; omega
    have v12 : (r1 12 + 1).toInt = (r1 12).toInt + 1 := by rw [ti_add (by omega) (by omega), e1]
    unfold plR
    split
    · unfold empR
      rw [if_neg (by omega), if_neg (by omega), rup_o (by omega), rup_o (by omega), rup_o (by omega), (hv o w f q g).2.1, rup_s, rup_o (by omega), rup_o (by omega), hfrM _ _ _ _ _ 12 (by omega), v12]
      omega
    · rw [(hv o w f q g).2.1, hfrM _ _ _ _ _ 12 (by omega)]
      omega
  by_cases g : r1 (217 + hn) = r1 14 / L.1 0
  · have gQT := hth.mpr g
    have hixn := hix gQT
    have hne : ¬ ixR (L.1 0) r1 = -1 := fun e => by
      rw [e] at hixn
      exact absurd hixn (by decide)
    rw [if_pos g] at hhere
    have hP : playRn N t (L.1 0) r1 = plR (octN N t (ixR (L.1 0) r1)) (if octN N t (ixR (L.1 0) r1) = octN N t (r1 16 * L.1 0 + r1 14 - r1 15) then 0 else 1) 0 (fun _ => 0) 0 r1 := by
      unfold playRn playR
      rw [if_pos gQT]
    have hrng := octN_rng (t := t) (N := N) (x := ixR (L.1 0) r1)
    have hC : playC M rr c = uc (uc (uc (uc (uc (uc c1 10 on (octN N t (ixR (L.1 0) r1))) 9 0 (r1 6 + 1)) 9 1 (r1 7 + 0)) 9 3 0) 9 2 (r1 13 + (if octN N t (ixR (L.1 0) r1) = octN N t (r1 16 * L.1 0 + r1 14 - r1 15) then 0 else 1))) 6 0 (r1 14 + 1) := by
      unfold playC
      simp only []
      rw [hL.1 0 (by decide), hc1, hhere, if_neg hne]
      have hear0 : hearC (octL M rr (ixR (L.1 0) r1)) 0 c1 = uc (uc (uc (uc c1 10 on (octN N t (ixR (L.1 0) r1))) 9 0 (r1 6 + 1)) 9 1 (r1 7 + 0)) 9 3 0 := by
        unfold hearC
        simp only [if_true]
        rw [hoc, cput_nat on128 (by decide), k1.g6, k1.g7, oct_eq hW hL hE hixn]
      rw [hear0]
      have hdue : dueC (L.1 0) (uc (uc (uc (uc c1 10 on (octN N t (ixR (L.1 0) r1))) 9 0 (r1 6 + 1)) 9 1 (r1 7 + 0)) 9 3 0) = r1 16 * L.1 0 + r1 14 - r1 15 := by
        unfold dueC
        rw [uc_o (by omega), uc_o (by omega), uc_o (by omega), uc_o (by omega), uc_o (by omega), uc_o (by omega), uc_o (by omega), uc_o (by omega), uc_o (by omega), uc_o (by omega), uc_o (by omega), uc_o (by omega), k1.g16, k1.g14, k1.g15]
      rw [hdue, oct_eq hW hL hE hixn, oct_eq hW hL hE hsh]
      have v92 : uc (uc (uc (uc c1 10 on (octN N t (ixR (L.1 0) r1))) 9 0 (r1 6 + 1)) 9 1 (r1 7 + 0)) 9 3 0 9 2 = r1 13 := by
        rw [uc_o (by omega), uc_o (by omega), uc_o (by omega), uc_o (by omega), k1.g13]
      rw [v92]
      have v60 : ∀ v, uc (uc (uc (uc (uc c1 10 on (octN N t (ixR (L.1 0) r1))) 9 0 (r1 6 + 1)) 9 1 (r1 7 + 0)) 9 3 0) 9 2 v 6 0 = r1 14 := fun v => by
        rw [uc_o (by omega), uc_o (by omega), uc_o (by omega), uc_o (by omega), uc_o (by omega), k1.g14]
      rw [v60, h93v, if_pos (by decide)]
    obtain ⟨w6, w7, w14, w30, wo, wg, w13⟩ := hv (octN N t (ixR (L.1 0) r1)) (if octN N t (ixR (L.1 0) r1) = octN N t (r1 16 * L.1 0 + r1 14 - r1 15) then 0 else 1) 0 (fun _ => 0) 0
    have hnr : ¬ (64 : Int32) ≤ pl7 (octN N t (ixR (L.1 0) r1)) (if octN N t (ixR (L.1 0) r1) = octN N t (r1 16 * L.1 0 + r1 14 - r1 15) then 0 else 1) 0 (fun _ => 0) 0 r1 30 := by rw [w30]; decide
    have hPl : plR (octN N t (ixR (L.1 0) r1)) (if octN N t (ixR (L.1 0) r1) = octN N t (r1 16 * L.1 0 + r1 14 - r1 15) then 0 else 1) 0 (fun _ => 0) 0 r1 = pl7 (octN N t (ixR (L.1 0) r1)) (if octN N t (ixR (L.1 0) r1) = octN N t (r1 16 * L.1 0 + r1 14 - r1 15) then 0 else 1) 0 (fun _ => 0) 0 r1 := if_neg hnr
    have t7 : (r1 7 + 0).toInt = (r1 7).toInt := by rw [Int32.add_zero]
    have hcore := hear_core (o := octN N t (ixR (L.1 0) r1)) (g := 0) hz hB hh h8' hon (hscP (octN N t (ixR (L.1 0) r1)) (if octN N t (ixR (L.1 0) r1) = octN N t (r1 16 * L.1 0 + r1 14 - r1 15) then 0 else 1) 0 (fun _ => 0) 0 (octN N t (ixR (L.1 0) r1)) 0) (hfrM _ _ _ _ _) w6 (by rw [w7, t7]; omega) w14 (by rw [w30, e0]; omega) wo wg hrng (Or.inl rfl) (hfcP _ _ _ _) (by rw [h10v, if_pos rfl]) (by rw [h93v, w30])
    refine ⟨?_, hplay, ?_, ?_, ?_, by rw [hP]; exact (hmon _ _ _ _ _ (Or.inl rfl)).1, by rw [hP]; exact (hmon _ _ _ _ _ (Or.inl rfl)).2⟩
    · rw [hC, hP, hPl]
      exact hcore.1
    · intro j hj
      rw [hP, hfrP _ _ _ _ _ j (by omega)]
      exact hfr0 j (by omega)
    · rw [hP, hfrP _ _ _ _ _ 23 (by omega)]
      exact hs23
    · intro d k hd
      rw [hC, hfcP _ _ _ _ d k (by omega)]
      exact hfc0 d k hd
  · have gQT : ¬ thR (L.1 0) r1 := fun q => g (hth.mp q)
    rw [if_neg g] at hhere
    have hP : playRn N t (L.1 0) r1 = plR (filR (N.1 (t + 3) 6) r1) 0 1 (fun v => v + 1) 1 r1 := by
      unfold playRn playR
      rw [if_neg gQT]
    have h30 : c1 9 3 = r1 30 := by
      rcases k13 with q | ⟨q1, q2, q3 | q3⟩
      · exact q
      · exact absurd q3 n80
      · exfalso
        apply g
        exact Int32.toInt_inj.mp (by rw [hsp]; exact t4 q3)
    have hfil : (if c1 5 2 = 1 then (126 : Int32) else lateC (if c1 5 2 = 0 then 0 else M.1 rr 6 - 1) c1) = filR (N.1 (t + 3) 6) r1 ∧ 0 ≤ (filR (N.1 (t + 3) 6) r1).toInt ∧ (filR (N.1 (t + 3) 6) r1).toInt ≤ 255 := by
      unfold filR
      rw [k1.g28, hE.1 6 (by decide), hL.1 6 (by decide)]
      by_cases q1 : r1 28 = 1
      · rw [if_pos q1, if_pos q1]
        exact ⟨rfl, by decide, by decide⟩
      · rw [if_neg q1, if_neg q1]
        by_cases q2 : r1 28 = 0
        · rw [if_pos q2, if_pos q2]
          exact late_ok (x := 0) (n := 1) (by omega) hh ⟨by decide, by decide⟩ (by decide)
        · rw [if_neg q2, if_neg q2]
          have s1 : (L.1 6 - 1).toInt = (L.1 6).toInt - 1 := by rw [ti_sub (by omega) (by omega), e1]
          exact late_ok (by omega) hh (by omega) (by omega)
    obtain ⟨hf1, hrng⟩ := hfil
    generalize filR (N.1 (t + 3) 6) r1 = o at *
    have e256 : (256 : Int32).toInt = 256 := rfl
    have hC : playC M rr c = if r1 30 + 1 < 64 then uc (uc (uc (uc (uc (uc c1 10 on (o + 256)) 9 0 (r1 6 + 1)) 9 1 (r1 7 + 1)) 9 3 (r1 30 + 1)) 9 2 (r1 13 + 0)) 6 0 (r1 14 + 1) else empC (uc (uc (uc (uc (uc (uc (uc (uc c1 10 on (o + 256)) 9 0 (r1 6 + 1)) 9 1 (r1 7 + 1)) 9 3 (r1 30 + 1)) 9 2 (r1 13 + 0)) 6 0 (r1 14 + 1)) 5 0 0) 5 9 (uc (uc (uc (uc (uc (uc c1 10 on (o + 256)) 9 0 (r1 6 + 1)) 9 1 (r1 7 + 1)) 9 3 (r1 30 + 1)) 9 2 (r1 13 + 0)) 6 0 (r1 14 + 1) 5 9 + 1)) := by
      unfold playC
      simp only []
      rw [hL.1 0 (by decide), hc1, hhere, if_pos rfl, show c 5 2 = c1 5 2 by rw [← hc1, uc_o (by omega)], hf1]
      have hear1 : hearC o 1 c1 = uc (uc (uc (uc (uc c1 10 on (o + 256)) 9 0 (r1 6 + 1)) 9 1 (r1 7 + 1)) 9 3 (r1 30 + 1)) 9 2 (r1 13 + 0) := by
        unfold hearC
        have n10 : ¬ (1 : Int32) = 0 := by decide
        simp only [if_neg n10]
        rw [hoc, cput_nat on128 (by decide), k1.g6, k1.g7, h30, Int32.add_zero]
        funext d k
        by_cases q : d = 9 ∧ k = 2
        · rw [q.1, q.2, uc_o (by omega), uc_o (by omega), uc_o (by omega), uc_o (by omega), uc_s, k1.g13]
        · rw [uc_o (d := 9) (k := 2) q]
      rw [hear1]
      have v60 : uc (uc (uc (uc (uc c1 10 on (o + 256)) 9 0 (r1 6 + 1)) 9 1 (r1 7 + 1)) 9 3 (r1 30 + 1)) 9 2 (r1 13 + 0) 6 0 = r1 14 := by
        rw [uc_o (by omega), uc_o (by omega), uc_o (by omega), uc_o (by omega), uc_o (by omega), k1.g14]
      rw [v60, h93v]
    obtain ⟨w6, w7, w14, w30, wo, wg, w13⟩ := hv o 0 1 (fun v => v + 1) 1
    have t30 : (r1 30 + 1).toInt = (r1 30).toInt + 1 := by rw [ti_add (by omega) (by omega), e1]
    have t7 : (r1 7 + 1).toInt = (r1 7).toInt + 1 := by rw [ti_add (by omega) (by omega), e1]
    have e64' : (64 : Int32).toInt = 64 := rfl
    refine ⟨?_, hplay, ?_, ?_, ?_, by rw [hP]; exact (hmon _ _ _ _ _ (Or.inr rfl)).1, by rw [hP]; exact (hmon _ _ _ _ _ (Or.inr rfl)).2⟩
    · rw [hC, hP]
      unfold plR
      rw [w30]
      by_cases q : r1 30 + 1 < 64
      · have q' := Int32.lt_iff_toInt_lt.mp q
        rw [if_pos q, if_neg (nle_lt.mpr q)]
        exact (hear_core (o := o) (g := 1) hz hB hh h8' hon (hscP o 0 1 (fun v => v + 1) 1 (o + 256) (r1 30 + 1)) (hfrM _ _ _ _ _) w6 (by rw [w7, t7]; omega) w14 (by rw [w30, t30]; omega) wo wg hrng (Or.inr rfl) (hfcP _ _ _ _) (by rw [h10v, if_neg (by decide)]) (by rw [h93v, w30])).1
      · have q' : ¬ (r1 30 + 1).toInt < 64 := fun a => q (Int32.lt_iff_toInt_lt.mpr a)
        rw [if_neg q, if_pos (nlt_le.mp q)]
        have hz64 : r1 30 + 1 = 64 := Int32.toInt_inj.mp (by rw [e64']; omega)
        have hb := hear_core (c' := uc (uc (uc (uc (uc (uc (uc c1 10 on (o + 256)) 9 0 (r1 6 + 1)) 9 1 (r1 7 + 1)) 9 3 0) 9 2 (r1 13 + 0)) 6 0 (r1 14 + 1)) 9 3 0) (r' := rup (pl7 o 0 1 (fun v => v + 1) 1 r1) 30 0) (o := o) (g := 1) hz hB hh h8' hon (((hscP o 0 1 (fun v => v + 1) 1 (o + 256) 0).uR (i := 30) (by decide)).uC (by decide)) (fun j hj => by rw [rup_o (by omega), hfrM _ _ _ _ _ j hj]) (by rw [rup_o (by omega), w6]) (by rw [rup_o (by omega), w7, t7]; omega) (by rw [rup_o (by omega), w14]) (by rw [rup_s, e0]; omega) (by rw [rup_o (by omega), wo]) (by rw [rup_o (by omega), wg]) hrng (Or.inr rfl) (fun d k hd => by rw [uc_o (by omega), hfcP _ _ _ _ d k hd]) (by rw [uc_o (by omega), h10v, if_neg (by decide)]) (by rw [uc_s, rup_s])
        have hres := reset_ok (c' := uc (uc (uc (uc (uc (uc c1 10 on (o + 256)) 9 0 (r1 6 + 1)) 9 1 (r1 7 + 1)) 9 3 (r1 30 + 1)) 9 2 (r1 13 + 0)) 6 0 (r1 14 + 1)) hb.1 rup_s hb.2 hB (fun d k hd => ?_) (by rw [h93v, hz64])
        · have e12 : rup (rup (pl7 o 0 1 (fun v => v + 1) 1 r1) 30 0) 8 0 12 = rup (pl7 o 0 1 (fun v => v + 1) 1 r1) 30 0 12 := rup_o (by omega)
          rw [e12]
          exact hres
        · by_cases a : d = 6 ∧ k = 0
          · rw [a.1, a.2, uc_s, uc_o (by omega), uc_s]
          · rw [uc_o (d := 6) (k := 0) a, uc_o hd, uc_o (d := 6) (k := 0) a]
            by_cases b : d = 9 ∧ k = 2
            · rw [b.1, b.2, uc_s, uc_s]
            · rw [uc_o b, uc_o b, uc_o hd, uc_o hd]
    · intro j hj
      rw [hP, hfrP _ _ _ _ _ j (by omega)]
      exact hfr0 j (by omega)
    · rw [hP, hfrP _ _ _ _ _ 23 (by omega)]
      exact hs23
    · intro d k hd
      rw [hC]
      split
      · rw [hfcP _ _ _ _ d k (by omega)]
        exact hfc0 d k hd
      · unfold empC ucf
        rw [if_neg (by omega), uc_o (by omega), uc_o (by omega), uc_o (by omega), hfcP _ _ _ _ d k (by omega)]
        exact hfc0 d k hd
