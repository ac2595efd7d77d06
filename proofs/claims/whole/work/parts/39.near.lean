/-! Receiving, level, steering alike. -/
theorem Core.fl {z p i : Int32} {A B C D : Int} {c c' : CW} {r r' : Nat → Int32} (h : Core z p i A B C D c r) (hS : Sc c' r') (hc : ∀ d k, 5 ≤ d → c' d k = c d k) (hr : ∀ j, ¬ j = 31 → ¬ (33 ≤ j ∧ j < 153) → r' j = r j) : Core z p i A B C D c' r' := by
  obtain ⟨k1, k2, k3, k4, k5, k6, k7, k8, k9, k10, k11, k12, k13⟩ := h
  refine ⟨hS, by rw [hc _ _ (by omega)]; exact k2, by rw [hc _ _ (by omega)]; exact k3, k4.cg (fun j hj => hr j ?_ ?_), k5.cg (fun j hj => hr j ?_ ?_), k6.cg (fun j hj => hr j (by omega) (by omega)), ?_, k8.cg (fun j hj => hr j (by omega) (by omega)), k9.cg (fun d k hd => hc d k (by omega)) (fun j a b => hr j (by omega) (by omega)), k10.cg (fun k => hc _ _ (by omega)) (fun j hj => hr j (by omega) (by omega)), k11.cg (fun k => hc _ _ (by omega)) (fun j hj => hr j (by omega) (by omega)), k12.cg (hc _ _ (by omega)) (hr _ (by omega) (by omega)) (hr _ (by omega) (by omega)), k13.cg (hc _ _ (by omega)) (fun j hj => hr j ?_ ?_)⟩
  · simp at hj; omega
  · simp at hj; omega
  · simp at hj; omega
  · simp at hj; omega
  · rw [hr 2 (by omega) (by omega)]
    exact k7.cg (Int.le_refl _) (fun j hj => hr j (by omega) (by omega))
  · simp at hj; omega
  · simp at hj; omega
theorem mov_nat {c : CW} {a b : Nat} (ha : a < 40) (hb : b < 40) : movC (Int32.ofNat a) (Int32.ofNat b) c = uc (uc (uc c 2 b (c 2 a)) 3 b (c 3 a)) 4 b (c 4 a) := by
  unfold movC
  simp only [cput_nat hb (show 40 < 2 ^ 31 by decide), cget_nat ha (show 40 < 2 ^ 31 by decide)]
  rw [uc_o (show ¬ (3 = 2 ∧ a = b) by omega), uc_o (show ¬ (4 = 3 ∧ a = b) by omega), uc_o (show ¬ (4 = 2 ∧ a = b) by omega)]
theorem com_nat {z : Int32} {c : CW} {a : Nat} (ha : a < 40) : comC z (Int32.ofNat a) c = comeC z (c 2 a) (c 4 a) c := by
  unfold comC comeC
  simp only [cget_nat ha (show 40 < 2 ^ 31 by decide)]
  by_cases h : c 5 0 = 0
  · rw [if_pos h]
    have e : ∀ d, d ≤ 4 → startC (c 2 a) (c 4 a) z (uc c 5 0 1) d a = c d a := fun d hd => by
      unfold startC
      rw [uc_o (by omega), uc_o (by omega), uc_o (by omega), uc_o (by omega), uc_o (by omega), uc_o (by omega), uc_o (by omega), uc_o (by omega)]
    rw [e 2 (by decide), e 4 (by decide)]
  · rw [if_neg h]
theorem tak_8 {z p s : Int32} {r : Nat → Int32} (hp : 0 ≤ p.toInt) : takR z p s r 8 = r 8 := by
  have hn := ti_rem (a := p) (b := 64) hp (by decide)
  have e64 : (64 : Int32).toInt = 64 := rfl
  rw [e64] at hn
  have h1 : ((153 : Int32) + (p - p / 64 * 64)).toNatClampNeg ≥ 153 := by
    unfold Int32.toNatClampNeg
    rw [idx_rng (a := 153) rfl (by decide) (by decide) (by omega) (by omega)]
    omega
  have h2 : ((217 : Int32) + (p - p / 64 * 64)).toNatClampNeg ≥ 217 := by
    unfold Int32.toNatClampNeg
    rw [idx_rng (a := 217) rfl (by decide) (by decide) (by omega) (by omega)]
    omega
  unfold takR
  split
  · split
    · simp only []
      split
      · rw [rup_o (by omega), rup_o (by omega), rup_o (by omega), rup_o (by omega), rup_o (by omega), rup_o (by omega)]
      · rw [rup_o (by omega), rup_o (by omega)]
    · rw [rup_o (by omega)]
  · rw [rup_o (by omega)]
theorem com_8 {z p s : Int32} {r : Nat → Int32} (hp : 0 ≤ p.toInt) (h : comR z p s r 8 = 2) : r 8 = 2 := by
  unfold comR at h
  rw [tak_8 hp] at h
  by_cases g : r 8 = 0
  · rw [if_pos g] at h
    unfold begR at h
    rw [rup_o (by decide), rup_o (by decide), rup_o (by decide), rup_o (by decide), rup_o (by decide), rup_o (by decide), rup_o (by decide), rup_s] at h
    exact absurd h (by decide)
  · rw [if_neg g] at h
    exact h
theorem rcv_ok {z p i : Int32} {A B C D : Int} {m : Nat} (hz : 1 ≤ z.toInt ∧ z.toInt ≤ 8) (hA : A ≤ 100000000) (hB : B ≤ 100000000) (h40 : m ≤ 40) : ∀ (n k a : Nat) (c : CW) (r : Nat → Int32), k ≤ a → a + n = m → Core z p i A B C D c r → r 31 = Int32.ofNat m → (∀ j, (j < k ∨ (a ≤ j ∧ j < m)) → (c 2 j = r (33 + 3 * j) ∧ c 3 j = r (33 + 3 * j + 1) ∧ c 4 j = r (33 + 3 * j + 2)) ∧ 0 ≤ (r (33 + 3 * j)).toInt ∧ (r (33 + 3 * j)).toInt ≤ (r 2).toInt) → gQD (k + n : Nat) (r 2).toInt r → (∃ m', m' ≤ 40 ∧ Core z p i A B C D (rcvC z n k a c) (rcvR z m n k a r) ∧ rcvR z m n k a r 31 = Int32.ofNat m' ∧ aL m' (rcvC z n k a c) (rcvR z m n k a r) ∧ gQL m' (rcvR z m n k a r 2).toInt (rcvR z m n k a r) ∧ gQD m' (rcvR z m n k a r 2).toInt (rcvR z m n k a r)) ∧ (∀ j, j < 4 ∨ j = 7 ∨ j = 12 ∨ j = 22 ∨ j = 23 ∨ j = 27 → rcvR z m n k a r j = r j) ∧ (r 4).toInt + (r 5).toInt ≤ (rcvR z m n k a r 4).toInt + (rcvR z m n k a r 5).toInt ∧ (rcvR z m n k a r 8 = 2 → r 8 = 2) ∧ (∀ k', 12 ≤ k' → rcvC z n k a c 1 k' = c 1 k') := by
  intro n
  induction n with
  | zero =>
    intro k a c r hk ha hC hm hfl hd
    unfold rcvC rcvR
    have fr : ∀ j, ¬ j = 31 → ¬ (33 + 3 * k ≤ j ∧ j < 33 + 3 * m) → rup (clrR r (33 + 3 * k) (33 + 3 * m)) 31 (Int32.ofNat k) j = r j := fun j h1 h2 => by
      rw [rup_o h1]
      exact if_neg h2
    have hS : Sc (uc c 1 8 (Int32.ofNat k)) (rup (clrR r (33 + 3 * k) (33 + 3 * m)) 31 (Int32.ofNat k)) := by
      refine Sc.up (d := 1) (k := 8) (i := 31) ?_ rfl (by decide)
      exact hC.1.cg (fun q _ => rfl) (fun j hj => if_neg (by omega))
    refine ⟨⟨k, by omega, hC.fl hS (fun d k' hd => uc_o (by omega)) (fun j h1 h2 => fr j h1 (by omega)), rup_s, fun j hj => ?_, fun j hj => ?_, ?_⟩, fun j hj => fr j (by omega) (by omega), by rw [fr 4 (by omega) (by omega), fr 5 (by omega) (by omega)]; omega, fun g => by rw [fr 8 (by omega) (by omega)] at g; exact g, fun k' hk' => uc_o (by omega)⟩
    · rw [fr _ (by omega) (by omega), fr _ (by omega) (by omega), fr _ (by omega) (by omega), uc_o (by omega), uc_o (by omega), uc_o (by omega)]
      exact (hfl j (Or.inl hj)).1
    · rw [fr _ (by omega) (by omega), fr 2 (by omega) (by omega)]
      exact (hfl j (Or.inl hj)).2
    · rw [fr 2 (by omega) (by omega)]
      exact hd.cg (by omega) (fr _ (by omega) (by omega)) (fr _ (by omega) (by omega))
  | succ n ih =>
    intro k a c r hk ha hC hm hfl hd
    have hfa := hfl a (Or.inr ⟨Nat.le_refl _, by omega⟩)
    unfold rcvC rcvR
    rw [cget_nat (show a < 40 by omega) (by decide), hfa.1.2.1, hC.1.g0]
    by_cases h : r 0 < r (33 + 3 * a + 1)
    · rw [if_pos h, if_neg (nle_lt.mpr h), mov_nat (by omega) (by omega)]
      have fr : ∀ j, ¬ (33 + 3 * k ≤ j ∧ j < 33 + 3 * k + 3) → kepR r a k j = r j := fun j hj => by
        unfold kepR
        rw [rup_o (by omega), rup_o (by omega), rup_o (by omega)]
      have fc : ∀ d j, ¬ ((d = 2 ∨ d = 3 ∨ d = 4) ∧ j = k) → uc (uc (uc c 2 k (c 2 a)) 3 k (c 3 a)) 4 k (c 4 a) d j = c d j := fun d j hj => by
        rw [uc_o (by omega), uc_o (by omega), uc_o (by omega)]
      have hS : Sc (uc (uc (uc c 2 k (c 2 a)) 3 k (c 3 a)) 4 k (c 4 a)) (kepR r a k) := by
        unfold kepR
        exact ((((((hC.1.uCa (d := 2) (by decide)).uCa (d := 3) (by decide)).uCa (d := 4) (by decide)).uRa (by omega)).uRa (by omega)).uRa (by omega))
      have hfl1 : ∀ j, (j < k + 1 ∨ (a + 1 ≤ j ∧ j < m)) → (uc (uc (uc c 2 k (c 2 a)) 3 k (c 3 a)) 4 k (c 4 a) 2 j = kepR r a k (33 + 3 * j) ∧ uc (uc (uc c 2 k (c 2 a)) 3 k (c 3 a)) 4 k (c 4 a) 3 j = kepR r a k (33 + 3 * j + 1) ∧ uc (uc (uc c 2 k (c 2 a)) 3 k (c 3 a)) 4 k (c 4 a) 4 j = kepR r a k (33 + 3 * j + 2)) ∧ 0 ≤ (kepR r a k (33 + 3 * j)).toInt ∧ (kepR r a k (33 + 3 * j)).toInt ≤ (kepR r a k 2).toInt := by
        intro j hj
        by_cases e : j = k
        · subst e
          have e0 : kepR r a j (33 + 3 * j) = r (33 + 3 * a) := by unfold kepR; rw [rup_o (by omega), rup_o (by omega), rup_s]
          have e1 : kepR r a j (33 + 3 * j + 1) = r (33 + 3 * a + 1) := by unfold kepR; rw [rup_o (by omega), rup_s]
          have e2 : kepR r a j (33 + 3 * j + 2) = r (33 + 3 * a + 2) := by unfold kepR; rw [rup_s]
          rw [e0, e1, e2, fr 2 (by omega), uc_o (by omega), uc_o (by omega), uc_s, uc_o (by omega), uc_s, uc_s]
          exact hfa
        · rw [fr _ (by omega), fr _ (by omega), fr _ (by omega), fr 2 (by omega), fc _ _ (by omega), fc _ _ (by omega), fc _ _ (by omega)]
          exact hfl j (by omega)
      have hd1 : gQD (k + 1 + n : Nat) (kepR r a k 2).toInt (kepR r a k) := by
        rw [fr 2 (by omega)]
        exact hd.cg (by omega) (fr _ (by omega)) (fr _ (by omega))
      obtain ⟨g1, g2, g5, g4, g3⟩ := ih (k + 1) (a + 1) _ _ (by omega) (by omega) (hC.fl hS (fun d j hd => fc d j (by omega)) (fun j h1 h2 => fr j (by omega))) (by rw [fr 31 (by omega)]; exact hm) hfl1 hd1
      exact ⟨g1, fun j hj => by rw [g2 j hj, fr j (by omega)], by rw [fr 4 (by omega), fr 5 (by omega)] at g5; exact g5, fun g => by have := g4 g; rw [fr 8 (by omega)] at this; exact this, fun k' hk' => by rw [g3 k' hk', fc _ _ (by omega)]⟩
    · rw [if_neg h, if_pos (nlt_le.mp h), com_nat (by omega), hfa.1.1, hfa.1.2.2]
      obtain ⟨w1, w2, w3, w4, w5⟩ := come_ok (st := r (33 + 3 * a + 2)) hz hA hB hC hfa.2 hd (by omega)
      have hfl1 : ∀ j, (j < k ∨ (a + 1 ≤ j ∧ j < m)) → (comeC z (r (33 + 3 * a)) (r (33 + 3 * a + 2)) c 2 j = comR z (r (33 + 3 * a)) (r (33 + 3 * a + 2)) r (33 + 3 * j) ∧ comeC z (r (33 + 3 * a)) (r (33 + 3 * a + 2)) c 3 j = comR z (r (33 + 3 * a)) (r (33 + 3 * a + 2)) r (33 + 3 * j + 1) ∧ comeC z (r (33 + 3 * a)) (r (33 + 3 * a + 2)) c 4 j = comR z (r (33 + 3 * a)) (r (33 + 3 * a + 2)) r (33 + 3 * j + 2)) ∧ 0 ≤ (comR z (r (33 + 3 * a)) (r (33 + 3 * a + 2)) r (33 + 3 * j)).toInt ∧ (comR z (r (33 + 3 * a)) (r (33 + 3 * a + 2)) r (33 + 3 * j)).toInt ≤ (comR z (r (33 + 3 * a)) (r (33 + 3 * a + 2)) r 2).toInt := by
        intro j hj
        rw [w3 (33 + 3 * j) (by omega), w3 (33 + 3 * j + 1) (by omega), w3 (33 + 3 * j + 2) (by omega), w3 2 (by omega), w4 _ _ (by omega), w4 _ _ (by omega), w4 _ _ (by omega)]
        exact hfl j (by omega)
      have hd1 : gQD (k + n : Nat) (comR z (r (33 + 3 * a)) (r (33 + 3 * a + 2)) r 2).toInt (comR z (r (33 + 3 * a)) (r (33 + 3 * a + 2)) r) := by
        rw [w3 2 (by omega)]
        exact w2.cg (by omega) rfl rfl
      obtain ⟨g1, g2, g5, g4, g3⟩ := ih k (a + 1) _ _ (by omega) (by omega) w1 (by rw [w3 31 (by omega)]; exact hm) hfl1 hd1
      exact ⟨g1, fun j hj => by rw [g2 j hj, w3 j (by omega)], Int.le_trans w5 g5, fun g => com_8 hfa.2.1 (g4 g), fun k' hk' => by rw [g3 k' hk', w4 _ _ (by omega)]⟩
theorem sf_ok {z p i : Int32} {A B C D : Int} {c : CW} {r : Nat → Int32} (hz : 1 ≤ z.toInt ∧ z.toInt ≤ 8) (h : Core z p i A B C D c r) (h8 : ¬ r 8 = 0) : SF z r := by
  obtain ⟨k1, k2, k3, k4, k5, k6, k7, k8, k9, k10, k11, k12, k13⟩ := h
  have n13 := k5.2.2.2.2.2.2.2.2.2.2.2.2.1
  have hd := ti_div (a := r 14) (b := z) n13 (by omega)
  obtain ⟨t1, t2, t3, t4⟩ := k8 h8
  have h0 : 0 ≤ (r 14).toInt / z.toInt := Int.ediv_nonneg n13 (by omega)
  refine ⟨by rw [hd]; exact h0, fun k hk hn => ?_, fun hle => ?_⟩
  · rcases k7.2 k hk with g | g
    · exact absurd g.1 hn
    · exact g.2.2.2.2.2
  · rw [hd] at hle
    refine ⟨((r 18).toInt % 64).toNat, by omega, fun e => ?_, t3 hle⟩
    rcases k7.2 ((r 18).toInt % 64).toNat (by omega) with g | g
    · have e1 := t3 hle
      rw [g.2] at e1
      have e2 : (-1 : Int32).toInt = -1 := rfl
      rw [← e1, e2] at hle
      omega
    · have e2 : (-1 : Int32).toInt = -1 := rfl
      have := g.2.1
      rw [e, e2] at this
      omega
theorem level_ok {z p i : Int32} {A B C D : Int} {c : CW} {r : Nat → Int32} (hz : 1 ≤ z.toInt ∧ z.toInt ≤ 8) (hB : B ≤ 100000000) (h : Core z p i A B C D c r) : nlevC z c = levR z r := by
  obtain ⟨k1, k2, k3, k4, k5, k6, k7, k8, k9, k10, k11, k12, k13⟩ := h
  obtain ⟨n1, n2, n3, n4, n5, n6, n7, n8, n9, n10, n11, n12, n13, n14, n15, n16, n17, n18, n19, n20⟩ := k5
  unfold nlevC levR
  rw [k1.g8]
  by_cases h8 : r 8 = 0
  · rw [if_pos h8, if_pos h8]
  · rw [if_neg h8, if_neg h8]
    unfold levC
    rw [k12 h8, k1.g14]
    obtain ⟨t1, t2, t3, t4⟩ := k8 h8
    have hd := ti_div (a := r 14) (b := z) n13 (by omega)
    have e1 : (1 : Int32).toInt = 1 := rfl
    have hle := Int.ediv_mul_le (r 14).toInt (show z.toInt ≠ 0 by omega)
    have hlt := Int.lt_ediv_add_one_mul_self (r 14).toInt (show (0 : Int) < z.toInt by omega)
    have h0 : 0 ≤ (r 14).toInt / z.toInt := Int.ediv_nonneg n13 (by omega)
    have hself := Int.ediv_le_self z.toInt n13
    have hp1 : (r 18 + 1).toInt = (r 18).toInt + 1 := by rw [ti_add (by omega) (by omega), e1]
    have hm0 : 0 ≤ ((r 18).toInt + 1) * z.toInt := Int.mul_nonneg (by omega) (by omega)
    have hm8 : ((r 18).toInt + 1) * z.toInt ≤ ((r 18).toInt + 1) * 8 := Int.mul_le_mul_of_nonneg_left hz.2 (by omega)
    have hmul : ((r 18 + 1) * z).toInt = ((r 18).toInt + 1) * z.toInt := by
      rw [ti_mul (by rw [hp1]; omega) (by rw [hp1]; omega), hp1]
    have hsub : ((r 18 + 1) * z - r 14).toInt = ((r 18).toInt + 1) * z.toInt - (r 14).toInt := by
      rw [ti_sub (by rw [hmul]; omega) (by rw [hmul]; omega), hmul]
    have e0 : (0 : Int32).toInt = 0 := rfl
    unfold imax
    by_cases hh : r 14 / z ≤ r 18
    · have hh2 := Int32.le_iff_toInt_le.mp hh
      rw [hd] at hh2
      have hmm : ((r 14).toInt / z.toInt + 1) * z.toInt ≤ ((r 18).toInt + 1) * z.toInt := Int.mul_le_mul_of_nonneg_right (by omega) (by omega)
      rw [if_pos hh, if_pos (Int32.lt_iff_toInt_lt.mpr (by rw [hsub, e0]; omega))]
    · have hh2 : ¬ (r 14).toInt / z.toInt ≤ (r 18).toInt := fun g => hh (Int32.le_iff_toInt_le.mpr (by rw [hd]; exact g))
      have hmm : ((r 18).toInt + 1) * z.toInt ≤ (r 14).toInt / z.toInt * z.toInt := Int.mul_le_mul_of_nonneg_right (by omega) (by omega)
      rw [if_neg hh, if_neg (fun g => by have := Int32.lt_iff_toInt_lt.mp g; rw [hsub, e0] at this; omega)]
theorem ti_min {a b : Int32} : (imin a b).toInt = if b.toInt < a.toInt then b.toInt else a.toInt := by
  unfold imin
  by_cases h : b < a
  · rw [if_pos h, if_pos (Int32.lt_iff_toInt_lt.mp h)]
  · rw [if_neg h, if_neg (fun g => h (Int32.lt_iff_toInt_lt.mpr g))]
theorem kept {a b v : Int32} (h : a.toInt ≤ b.toInt) : a.toInt ≤ (imax a (imin b v)).toInt ∧ (imax a (imin b v)).toInt ≤ b.toInt := by
  rw [ti_max, ti_min]
  split <;> split <;> omega
theorem Core.mono {z p i : Int32} {A B C D A' B' C' D' : Int} {c : CW} {r : Nat → Int32} (h : Core z p i A B C D c r) (hA : A ≤ A') (hB : B ≤ B') (hC : C ≤ C') (hD : D ≤ D') : Core z p i A' B' C' D' c r := by
  obtain ⟨k1, k2, k3, k4, k5, k6, k7⟩ := h
  refine ⟨k1, k2, k3, ?_, ?_, fun k hk => ?_, k7⟩
  · unfold gF at *; omega
  · unfold gN at *
    obtain ⟨n1, n2, n3, n4, n5, n6, n7, n8, n9, n10, n11, n12, n13, n14, n15, n16, n17, n18, n19, n20⟩ := k5
    exact ⟨n1, n2, by omega, n4, n5, n6, n7, n8, by omega, by omega, n11, n12, n13, n14, n15, n16, n17, n18, n19, by omega⟩
  · have := k6 k hk
    exact ⟨by omega, this.2⟩
theorem Core.bnd {z p i : Int32} {A B C D : Int} {c : CW} {r : Nat → Int32} (h : Core z p i A B C D c r) : 0 ≤ C := by
  have := h.2.2.2.2.1
  unfold gN at this
  omega
theorem ste1_ok {z p i : Int32} {A B C D : Int} {c : CW} {r : Nat → Int32} (hz : 1 ≤ z.toInt ∧ z.toInt ≤ 8) (hB : B ≤ 100000000) (h : Core z p i A B C D c r) : Core z p i A B C D (ste1C z c) (st1R z r) ∧ (∀ j, ¬ (j = 8 ∨ j = 9 ∨ j = 10 ∨ j = 11 ∨ j = 23) → st1R z r j = r j) ∧ (∀ d k, ¬ d = 5 → ste1C z c d k = c d k) := by
  have hlv := level_ok hz hB h
  have hh := h
  obtain ⟨k1, k2, k3, k4, k5, k6, k7, k8, k9, k10, k11, k12, k13⟩ := h
  unfold ste1C st1R
  rw [k1.g8, hlv, k1.g29]
  by_cases h1 : r 8 = 1
  · rw [if_pos h1, if_pos h1]
    by_cases h2 : levR z r < r 29
    · rw [if_pos h2, if_pos h2]
      exact ⟨hh, fun _ _ => rfl, fun _ _ _ => rfl⟩
    · rw [if_neg h2, if_neg h2]
      have n80 : ¬ r 8 = 0 := by rw [h1]; decide
      have fr : ∀ j, ¬ (j = 8 ∨ j = 9 ∨ j = 10 ∨ j = 11 ∨ j = 23) → rup (rup (rup (rup (rup r 8 2) 23 0) 10 0) 9 0) 11 0 j = r j := fun j hj => by
        rw [rup_o (by omega), rup_o (by omega), rup_o (by omega), rup_o (by omega), rup_o (by omega)]
      have v8 : rup (rup (rup (rup (rup r 8 2) 23 0) 10 0) 9 0) 11 0 8 = 2 := by simp [rup]
      have v9 : rup (rup (rup (rup (rup r 8 2) 23 0) 10 0) 9 0) 11 0 9 = 0 := by simp [rup]
      have v11 : rup (rup (rup (rup (rup r 8 2) 23 0) 10 0) 9 0) 11 0 11 = 0 := by simp [rup]
      have v23 : rup (rup (rup (rup (rup r 8 2) 23 0) 10 0) 9 0) 11 0 23 = 0 := by simp [rup]
      have fc : ∀ d k, ¬ (d = 5 ∧ (k = 0 ∨ (5 ≤ k ∧ k ≤ 8))) → clrC (uc c 5 0 2) d k = c d k := fun d k hd => by
        unfold clrC
        rw [uc_o (by omega), uc_o (by omega), uc_o (by omega), uc_o (by omega), uc_o (by omega)]
      have e0 : (0 : Int32).toInt = 0 := rfl
      obtain ⟨n1, n2, n3, n4, n5, n6, n7, n8, n9, n10, n11, n12, n13, n14, n15, n16, n17, n18, n19, n20⟩ := k5
      refine ⟨⟨?_, by rw [fc _ _ (by omega)]; exact k2, by rw [fc _ _ (by omega)]; exact k3, k4.cg (fun j hj => fr j ?_), ?_, k6.cg (fun j hj => fr j (by omega)), ⟨?_, fun k hk => ?_⟩, ?_, k9.cg (fun d k hd => fc d k (by omega)) (fun j a b => fr j (by omega)), k10.cg (fun k => fc _ _ (by omega)) (fun j hj => fr j (by omega)), k11.cg (fun k => fc _ _ (by omega)) (fun j hj => fr j (by omega)), fun _ => ?_, ?_⟩, fr, fun d k hd => fc d k (by omega)⟩
      · unfold clrC
        refine Sc.up (d := 5) (k := 8) (i := 11) ?_ rfl (by decide)
        refine Sc.up (d := 5) (k := 7) (i := 9) ?_ rfl (by decide)
        refine Sc.up (d := 5) (k := 6) (i := 10) ?_ rfl (by decide)
        refine Sc.up (d := 5) (k := 5) (i := 23) ?_ rfl (by decide)
        exact Sc.up (d := 5) (k := 0) (i := 8) k1 rfl (by decide)
      · simp at hj; omega
      · unfold gN
        rw [fr 6 (by omega), fr 7 (by omega), fr 12 (by omega), fr 14 (by omega), fr 15 (by omega), fr 30 (by omega), fr 32 (by omega), v8, v9, v11, v23, e0]
        exact ⟨n1, Int.le_refl _, by omega, n4, n5, Or.inr (Or.inr rfl), by omega, by omega, by omega, by omega, n11, n12, n13, n14, n15, n16, n17, n18, n19, n20⟩
      · rw [fr 16 (by omega), fr 2 (by omega)]; exact k7.1
      · rw [fr _ (by omega), fr _ (by omega), fr 2 (by omega), fr 18 (by omega), v8]
        rcases k7.2 k hk with g | ⟨g1, g2⟩
        · exact Or.inl g
        · exact Or.inr ⟨by decide, g2⟩
      · intro _
        have i1 : ((r 18).toInt % 64).toNat < 64 := by omega
        have i2 : ((r 14).toInt / z.toInt % 64).toNat < 64 := by omega
        rw [fr 14 (by omega), fr 15 (by omega), fr 17 (by omega), fr 18 (by omega), fr 21 (by omega), fr (217 + ((r 18).toInt % 64).toNat) (by omega), fr (217 + ((r 14).toInt / z.toInt % 64).toNat) (by omega)]
        exact k8 n80
      · rw [fc _ _ (by omega), fr 18 (by omega)]; exact k12 n80
      · unfold aR
        rw [fc _ _ (by omega), fr 30 (by omega), fr 14 (by omega), fr 15 (by omega)]
        rcases k13 with g | ⟨g1, g2, g3⟩
        · exact Or.inl g
        · exact Or.inr ⟨g1, g2, Or.inr (g3.resolve_left n80)⟩
  · rw [if_neg h1, if_neg h1]
    exact ⟨hh, fun _ _ => rfl, fun _ _ _ => rfl⟩
theorem ste2_ok {z p i y : Int32} {A B C D : Int} {c : CW} {r : Nat → Int32} {lv : Int32} (hD : D ≤ 100000000) (h : Core z p i A B C D c r) (hy : y = lv - r 29) : Core z p i A B C (D + 1) (ste2C lv c) (st2R p i y r) ∧ (∀ j, ¬ (j = 9 ∨ j = 10 ∨ j = 32 ∨ (281 ≤ j ∧ j < 409)) → st2R p i y r j = r j) ∧ (∀ d k, d ≤ 4 → ste2C lv c d k = c d k) := by
  have hh := h
  obtain ⟨k1, k2, k3, k4, k5, k6, k7, k8, k9, k10, k11, k12, k13⟩ := h
  obtain ⟨n1, n2, n3, n4, n5, n6, n7, n8, n9, n10, n11, n12, n13, n14, n15, n16, n17, n18, n19, n20⟩ := k5
  have e128 : (128 : Int32).toInt = 128 := rfl
  have e1 : (1 : Int32).toInt = 1 := rfl
  have m0 := Int.emod_nonneg (r 32).toInt (show (128 : Int) ≠ 0 by decide)
  have m1 := Int.emod_lt_of_pos (r 32).toInt (show (0 : Int) < 128 by decide)
  have hsn : ((281 : Int32) + (r 32 - r 32 / 128 * 128)).toNatClampNeg = 281 + ((r 32).toInt % 128).toNat := by
    unfold Int32.toNatClampNeg
    have q := ti_rem (a := r 32) (b := 128) n19 (by decide)
    rw [e128] at q
    rw [idx_rng (a := 281) rfl (by decide) (by decide) (by omega) (by omega), q]
    omega
  have hcn : imod (c 9 4) 128 = Int32.ofNat ((r 32).toInt % 128).toNat := by
    have q : (imod (c 9 4) 128).toInt = (r 32).toInt % 128 := by rw [ti_mod (by decide), e128, k1.g32]
    rw [nat_of (a := imod (c 9 4) 128) (by omega), q]
  generalize hI : imax (-3200) (imin 3200 (r 10 + i * y)) = vI
  generalize hK : imax (-200) (imin 200 ((p * y + vI) / 16)) = vK
  have hK1 : -200 ≤ vK.toInt ∧ vK.toInt ≤ 200 := by
    have := kept (a := -200) (b := 200) (v := (p * y + vI) / 16) (by decide)
    rw [hK] at this
    exact this
  have sn : ((r 32).toInt % 128).toNat < 128 := by omega
  generalize hs : ((r 32).toInt % 128).toNat = sn' at *
  have hR : st2R p i y r = rup (rup (rup (rup r 10 vI) 9 vK) (281 + sn') (r 11)) 32 (r 32 + 1) := by
    unfold st2R
    simp only []
    rw [hI, rup_s, hK]
    rw [rup_o (show ¬ 32 = 9 by decide), rup_o (show ¬ 32 = 10 by decide), hsn, rup_o (show ¬ 11 = 9 by decide), rup_o (show ¬ 11 = 10 by decide), rup_o (show ¬ 32 = 281 + sn' by omega), rup_o (show ¬ 32 = 9 by decide), rup_o (show ¬ 32 = 10 by decide)]
  have hC : ste2C lv c = uc (uc (uc (uc c 5 6 vI) 5 7 vK) 11 sn' (r 11)) 9 4 (r 32 + 1) := by
    unfold ste2C samC
    simp only []
    rw [k1.g10, k3, k1.g29, ← hy, hI, uc_s, k2, hK, uc_o (show ¬ (9 = 5 ∧ 4 = 7) by decide), uc_o (show ¬ (9 = 5 ∧ 4 = 6) by decide), hcn, cput_nat sn (by decide), k1.g11, k1.g32]
  rw [hR, hC]
  have fr : ∀ j, ¬ (j = 9 ∨ j = 10 ∨ j = 32 ∨ j = 281 + sn') → rup (rup (rup (rup r 10 vI) 9 vK) (281 + sn') (r 11)) 32 (r 32 + 1) j = r j := fun j hj => by
    rw [rup_o (by omega), rup_o (by omega), rup_o (by omega), rup_o (by omega)]
  have fc : ∀ d k, ¬ ((d = 5 ∧ (k = 6 ∨ k = 7)) ∨ (d = 11 ∧ k = sn') ∨ (d = 9 ∧ k = 4)) → uc (uc (uc (uc c 5 6 vI) 5 7 vK) 11 sn' (r 11)) 9 4 (r 32 + 1) d k = c d k := fun d k hd => by
    rw [uc_o (by omega), uc_o (by omega), uc_o (by omega), uc_o (by omega)]
  have v9 : rup (rup (rup (rup r 10 vI) 9 vK) (281 + sn') (r 11)) 32 (r 32 + 1) 9 = vK := by rw [rup_o (by omega), rup_o (by omega), rup_s]
  have v32 : rup (rup (rup (rup r 10 vI) 9 vK) (281 + sn') (r 11)) 32 (r 32 + 1) 32 = r 32 + 1 := rup_s
  have t32 : (r 32 + 1).toInt = (r 32).toInt + 1 := by rw [ti_add (by omega) (by omega), e1]
  have vs : rup (rup (rup (rup r 10 vI) 9 vK) (281 + sn') (r 11)) 32 (r 32 + 1) (281 + sn') = r 11 := by rw [rup_o (by omega), rup_s]
  refine ⟨⟨?_, by rw [fc _ _ (by omega)]; exact k2, by rw [fc _ _ (by omega)]; exact k3, k4.cg (fun j hj => fr j ?_), ?_, fun k hk => ?_, ?_, k8.cg (fun j hj => fr j (by omega)), k9.cg (fun d k hd => fc d k (by omega)) (fun j a b => fr j (by omega)), k10.cg (fun k => fc _ _ (by omega)) (fun j hj => fr j (by omega)), fun k hk hlt => ?_, k12.cg (fc _ _ (by omega)) (fr _ (by omega)) (fr _ (by omega)), k13.cg (fc _ _ (by omega)) (fun j hj => fr j ?_)⟩, fun j hj => fr j (by omega), fun d k hd => fc d k (by omega)⟩
  · refine Sc.up (d := 9) (k := 4) (i := 32) ?_ rfl (by decide)
    refine (Sc.uCa (d := 11) ?_ (by decide)).uRa (by omega)
    refine Sc.up (d := 5) (k := 7) (i := 9) ?_ rfl (by decide)
    exact Sc.up (d := 5) (k := 6) (i := 10) k1 rfl (by decide)
  · simp at hj; omega
  · unfold gN
    rw [fr 6 (by omega), fr 7 (by omega), fr 8 (by omega), fr 11 (by omega), fr 12 (by omega), fr 14 (by omega), fr 15 (by omega), fr 23 (by omega), fr 30 (by omega), v9, v32, t32]
    exact ⟨n1, n2, n3, n4, n5, n6, hK1.1, hK1.2, n9, n10, n11, n12, n13, n14, n15, n16, n17, n18, by omega, by omega⟩
  · by_cases e : k = sn'
    · subst e
      rw [vs, fr _ (by omega), fr _ (by omega)]
      exact ⟨⟨n9, n10⟩, (k6 k hk).2⟩
    · rw [fr _ (by omega), fr _ (by omega), fr _ (by omega)]
      exact k6 k hk
  · rw [fr 2 (by omega)]
    exact k7.cg (Int.le_refl _) (fun j hj => fr j (by omega))
  · rw [v32, t32] at hlt
    by_cases e : k = sn'
    · subst e
      rw [vs, uc_o (by omega), uc_s]
    · rw [fr _ (by omega), fc _ _ (by omega)]
      refine k11 k hk ?_
      omega
  · simp at hj; omega
theorem ste_ok {z e p i time : Int32} {A B C D : Int} {c : CW} {r : Nat → Int32} (hz : 1 ≤ z.toInt ∧ z.toInt ≤ 8) (he : 1 ≤ e.toInt) (hB : B ≤ 100000000) (hD : D ≤ 100000000) (h : Core z p i A B C D c r) (ht : time = r 0) (h0 : 0 ≤ (r 0).toInt) : Core z p i A B C (D + 1) (steC z e time c) (stR z e p i r) ∧ (∀ j, ¬ (j = 8 ∨ j = 9 ∨ j = 10 ∨ j = 11 ∨ j = 23 ∨ j = 32 ∨ (281 ≤ j ∧ j < 409)) → stR z e p i r j = r j) ∧ (∀ d k, d ≤ 4 → steC z e time c d k = c d k) := by
  have hlv := level_ok hz hB h
  obtain ⟨w1, w2, w3⟩ := ste1_ok hz hB h
  unfold steC stR
  simp only []
  rw [w1.1.g8, hlv]
  have e0 : st1R z r 0 = r 0 := w2 0 (by omega)
  have hm : imod time e = st1R z r 0 - st1R z r 0 / e * e := by rw [e0, ht]; exact imod_rem h0 (by omega)
  rw [hm]
  by_cases h1 : st1R z r 8 = 2
  · rw [if_pos h1, if_pos h1]
    by_cases h2 : st1R z r 0 - st1R z r 0 / e * e = 0
    · rw [if_pos h2, if_pos h2]
      obtain ⟨g1, g2, g3⟩ := ste2_ok (lv := levR z r) hD w1 rfl
      exact ⟨g1, fun j hj => by rw [g2 j (by omega), w2 j (by omega)], fun d k hd => by rw [g3 d k hd, w3 d k (by omega)]⟩
    · rw [if_neg h2, if_neg h2]
      exact ⟨w1.mono (Int.le_refl _) (Int.le_refl _) (Int.le_refl _) (by omega), fun j hj => w2 j (by omega), fun d k hd => w3 d k (by omega)⟩
  · rw [if_neg h1, if_neg h1]
    exact ⟨w1.mono (Int.le_refl _) (Int.le_refl _) (Int.le_refl _) (by omega), fun j hj => w2 j (by omega), fun d k hd => w3 d k (by omega)⟩
theorem ste_23 {z e p i : Int32} {r : Nat → Int32} (h32 : 0 ≤ (r 32).toInt) (h : r 8 = 2 → (r 23).toInt < 1000) (g : stR z e p i r 8 = 2) : (stR z e p i r 23).toInt < 1000 := by
  have k1 : st1R z r 8 = 2 → (st1R z r 23).toInt < 1000 := by
    unfold st1R
    split
    · split
      · exact h
      · intro _
        rw [rup_o (by decide), rup_o (by decide), rup_o (by decide), rup_s]
        decide
    · exact h
  have q32 : st1R z r 32 = r 32 := by
    unfold st1R
    split
    · split
      · rfl
      · rw [rup_o (by omega), rup_o (by omega), rup_o (by omega), rup_o (by omega), rup_o (by omega)]
    · rfl
  have k2 : ∀ y j, j < 9 ∨ j = 23 → st2R p i y (st1R z r) j = st1R z r j := fun y j hj => by
    have e128 : (128 : Int32).toInt = 128 := rfl
    have hi : ((281 : Int32) + (r 32 - r 32 / 128 * 128)).toNatClampNeg ≥ 281 := by
      have q := ti_rem (a := r 32) (b := 128) h32 (by decide)
      rw [e128] at q
      unfold Int32.toNatClampNeg
      rw [idx_rng (a := 281) rfl (by decide) (by decide) (by omega) (by omega)]
      omega
    unfold st2R
    rw [rup_o (show ¬ j = 32 by omega), rup_o (by rw [rup_o (show ¬ 32 = 9 by decide), rup_o (show ¬ 32 = 10 by decide), q32]; omega), rup_o (by omega), rup_o (by omega)]
  unfold stR at g ⊢
  split at g
  · split at g
    · rename_i a b
      rw [if_pos a, if_pos b, k2 _ 23 (by omega)]
      rw [k2 _ 8 (by omega)] at g
      exact k1 g
    · rename_i a b
      rw [if_pos a, if_neg b]
      exact k1 g
  · rename_i a
    rw [if_neg a]
    exact k1 g
def nclkR (r : Nat → Int32) : Nat → Int32 := if r 8 = 2 then rup (rup r 23 (r 23 + (1000 + r 9))) 11 (r 11 + (r 27 - r 9)) else r
theorem nclk_ok {z p i : Int32} {A B C D : Int} {c : CW} {r : Nat → Int32} (hB : B ≤ 100000000) (hC : C ≤ 100000000) (h : Core z p i A B C D c r) : Core z p i A (B + 1200) (C + 299) D (nclkC (c 1 0) c) (nclkR r) ∧ (∀ j, ¬ (j = 11 ∨ j = 23) → nclkR r j = r j) ∧ (∀ d k, ¬ d = 5 → nclkC (c 1 0) c d k = c d k) ∧ ((r 8 = 2 → (r 23).toInt < 1000) → nclkR r 8 = 2 → (nclkR r 23).toInt < 3000) := by
  have hh := h
  obtain ⟨k1, k2, k3, k4, k5, k6, k7, k8, k9, k10, k11, k12, k13⟩ := h
  obtain ⟨n1, n2, n3, n4, n5, n6, n7, n8, n9, n10, n11, n12, n13, n14, n15, n16, n17, n18, n19, n20⟩ := k5
  obtain ⟨f1, f2, f3, f4, f5, f6, f7⟩ := k4
  have k4 : gF A r := ⟨f1, f2, f3, f4, f5, f6, f7⟩
  unfold nclkC nclkR
  rw [k1.g8]
  by_cases h1 : r 8 = 2
  · rw [if_pos h1, if_pos h1]
    have e1000 : (1000 : Int32).toInt = 1000 := rfl
    have a1 : (1000 + r 9).toInt = 1000 + (r 9).toInt := by rw [ti_add (by omega) (by omega), e1000]
    have a2 : (r 23 + (1000 + r 9)).toInt = (r 23).toInt + (1000 + (r 9).toInt) := by rw [ti_add (by omega) (by omega), a1]
    have a3 : (r 27 - r 9).toInt = (r 27).toInt - (r 9).toInt := by rw [ti_sub (by omega) (by omega)]
    have a4 : (r 11 + (r 27 - r 9)).toInt = (r 11).toInt + ((r 27).toInt - (r 9).toInt) := by rw [ti_add (by omega) (by omega), a3]
    have fr : ∀ j, ¬ (j = 11 ∨ j = 23) → rup (rup r 23 (r 23 + (1000 + r 9))) 11 (r 11 + (r 27 - r 9)) j = r j := fun j hj => by
      rw [rup_o (by omega), rup_o (by omega)]
    have v11 : rup (rup r 23 (r 23 + (1000 + r 9))) 11 (r 11 + (r 27 - r 9)) 11 = r 11 + (r 27 - r 9) := rup_s
    have v23 : rup (rup r 23 (r 23 + (1000 + r 9))) 11 (r 11 + (r 27 - r 9)) 23 = r 23 + (1000 + r 9) := by rw [rup_o (by omega), rup_s]
    have fc : ∀ d k, ¬ (d = 5 ∧ (k = 5 ∨ k = 8)) → uc (uc c 5 5 (c 5 5 + (1000 + c 5 7))) 5 8 (c 5 8 + (c 1 0 - c 5 7)) d k = c d k := fun d k hd => by
      rw [uc_o (by omega), uc_o (by omega)]
    refine ⟨⟨?_, by rw [fc _ _ (by omega)]; exact k2, by rw [fc _ _ (by omega)]; exact k3, k4.cg (fun j hj => fr j ?_), ?_, fun k hk => ?_, ?_, k8.cg (fun j hj => fr j (by omega)), k9.cg (fun d k hd => fc d k (by omega)) (fun j a b => fr j (by omega)), k10.cg (fun k => fc _ _ (by omega)) (fun j hj => fr j (by omega)), k11.cg (fun k => fc _ _ (by omega)) (fun j hj => fr j (by omega)), k12.cg (fc _ _ (by omega)) (fr _ (by omega)) (fr _ (by omega)), k13.cg (fc _ _ (by omega)) (fun j hj => fr j ?_)⟩, fr, fun d k hd => fc d k (by omega), fun g _ => ?_⟩
    · refine Sc.up (d := 5) (k := 8) (i := 11) ?_ (by rw [k1.g11, k1.g27, k1.g9]) (by decide)
      exact Sc.up (d := 5) (k := 5) (i := 23) k1 (by rw [k1.g23, k1.g9]) (by decide)
    · simp at hj; omega
    · unfold gN
      rw [fr 6 (by omega), fr 7 (by omega), fr 8 (by omega), fr 9 (by omega), fr 12 (by omega), fr 14 (by omega), fr 15 (by omega), fr 30 (by omega), fr 32 (by omega), v11, v23, a2, a4]
      exact ⟨n1, by omega, by omega, n4, n5, n6, n7, n8, by omega, by omega, n11, n12, n13, n14, n15, n16, n17, n18, n19, n20⟩
    · rw [fr _ (by omega), fr _ (by omega), fr _ (by omega)]
      have := k6 k hk
      exact ⟨by omega, this.2⟩
    · rw [fr 2 (by omega)]
      exact k7.cg (Int.le_refl _) (fun j hj => fr j (by omega))
    · simp at hj; omega
    · have := g h1
      rw [v23, a2]
      omega
  · rw [if_neg h1, if_neg h1]
    exact ⟨hh.mono (Int.le_refl _) (by omega) (by omega) (Int.le_refl _), fun _ _ => rfl, fun _ _ _ => rfl, fun _ g => absurd g h1⟩
