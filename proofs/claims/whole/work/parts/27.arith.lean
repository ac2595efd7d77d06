/-! arithmetic of ints by their values; small rules -/
theorem bd_eq {α τ : Type} {o : Option (α × Mem)} {v : α} {M : Mem} {k : α → Mem → Option τ} (h : o = some (v, M)) : bd o k = k v M := by
  rw [h]
  rfl
theorem gdi_eq {i : Int32} {n : Nat} {τ : Type} {o : Option τ} (hi : 0 ≤ i.toInt ∧ i.toInt < (n : Int)) : gdi i n o = o := if_pos hi
theorem gdp_eq {c : Prop} [Decidable c] {τ : Type} {o : Option τ} (h : c) : gdp c o = o := if_pos h
theorem ti_rng (a : Int32) : -2147483648 ≤ a.toInt ∧ a.toInt < 2147483648 := ⟨a.le_toInt, a.toInt_lt⟩
theorem ti_add {a b : Int32} (h1 : -2147483648 ≤ a.toInt + b.toInt) (h2 : a.toInt + b.toInt < 2147483648) : (a + b).toInt = a.toInt + b.toInt := by
  rw [Int32.toInt_add]
  exact Int.bmod_eq_of_le (by omega) (by omega)
theorem ti_sub {a b : Int32} (h1 : -2147483648 ≤ a.toInt - b.toInt) (h2 : a.toInt - b.toInt < 2147483648) : (a - b).toInt = a.toInt - b.toInt := by
  rw [Int32.toInt_sub]
  exact Int.bmod_eq_of_le (by omega) (by omega)
theorem ti_mul {a b : Int32} (h1 : -2147483648 ≤ a.toInt * b.toInt) (h2 : a.toInt * b.toInt < 2147483648) : (a * b).toInt = a.toInt * b.toInt := by
  rw [Int32.toInt_mul]
  exact Int.bmod_eq_of_le (by omega) (by omega)
theorem ti_neg {a : Int32} (h1 : -2147483648 < a.toInt) : (-a).toInt = -a.toInt := by
  rw [Int32.toInt_neg]
  have := (ti_rng a).2
  exact Int.bmod_eq_of_le (by omega) (by omega)
theorem ti_tdiv {a b : Int32} (hb : b ≠ -1) : (a / b).toInt = a.toInt.tdiv b.toInt := Int32.toInt_div_of_ne_right a b hb
theorem ne_m1 {b : Int32} (hb : 0 < b.toInt) : b ≠ -1 := fun e => by
  subst e
  exact absurd hb (by decide)
theorem ti_div {a b : Int32} (ha : 0 ≤ a.toInt) (hb : 0 < b.toInt) : (a / b).toInt = a.toInt / b.toInt := by
  rw [ti_tdiv (ne_m1 hb), Int.tdiv_eq_ediv_of_nonneg ha]
theorem td_bd {a b : Int} (hb : 0 < b) : (0 ≤ a → 0 ≤ a.tdiv b * b ∧ a.tdiv b * b ≤ a) ∧ (a < 0 → a ≤ a.tdiv b * b ∧ a.tdiv b * b ≤ 0) := by
  have key : ∀ a : Int, 0 ≤ a → 0 ≤ a.tdiv b * b ∧ a.tdiv b * b ≤ a := fun a h => by
    rw [Int.tdiv_eq_ediv_of_nonneg h]
    exact ⟨Int.mul_nonneg (Int.ediv_nonneg h (Int.le_of_lt hb)) (Int.le_of_lt hb), Int.ediv_mul_le a (by omega)⟩
  refine ⟨key a, fun h => ?_⟩
  have h1 := key (-a) (by omega)
  rw [Int.neg_tdiv, Int.neg_mul] at h1
  omega
theorem ti_rem0 {a b : Int32} (hb : 0 < b.toInt) : (a - a / b * b).toInt = a.toInt.tmod b.toInt := by
  have e1 := ti_tdiv (a := a) (ne_m1 hb)
  have e2 := Int.mul_tdiv_add_tmod a.toInt b.toInt
  have ra := ti_rng a
  have e3 := td_bd (a := a.toInt) hb
  rw [Int.mul_comm] at e2
  have e7 : (a / b * b).toInt = a.toInt.tdiv b.toInt * b.toInt := by
    rw [← e1]
    rw [← e1] at e3
    exact ti_mul (by omega) (by omega)
  rw [ti_sub (by omega) (by omega), e7]
  omega
theorem ti_rem {a b : Int32} (ha : 0 ≤ a.toInt) (hb : 0 < b.toInt) : (a - a / b * b).toInt = a.toInt % b.toInt := by
  rw [ti_rem0 hb, Int.tmod_eq_emod_of_nonneg ha]
theorem xor_sg (a b : Int32) : ((0 : Int32) ≤ a ^^^ b) ↔ ((a.toInt < 0) ↔ (b.toInt < 0)) := by
  have e : decide ((a ^^^ b).toInt < 0) = (decide (a.toInt < 0) ^^ decide (b.toInt < 0)) := by
    have h1 := BitVec.msb_eq_toInt (x := (a ^^^ b).toBitVec)
    have h2 := BitVec.msb_eq_toInt (x := a.toBitVec)
    have h3 := BitVec.msb_eq_toInt (x := b.toBitVec)
    have h4 : (a ^^^ b).toBitVec.msb = (a.toBitVec.msb ^^ b.toBitVec.msb) := by
      rw [Int32.toBitVec_xor]
      exact BitVec.msb_xor
    rw [h1, h2, h3] at h4
    exact h4
  rw [Int32.le_iff_toInt_le]
  have e0 : (0 : Int32).toInt = 0 := rfl
  rw [e0]
  by_cases h1 : (a ^^^ b).toInt < 0
  · have h2 : ¬ 0 ≤ (a ^^^ b).toInt := by omega
    by_cases h3 : a.toInt < 0 <;> by_cases h4 : b.toInt < 0 <;> simp_all <;> omega
  · have h2 : 0 ≤ (a ^^^ b).toInt := by omega
    by_cases h3 : a.toInt < 0 <;> by_cases h4 : b.toInt < 0 <;> simp_all <;> omega
theorem i_pos {b : Int32} (hb : 0 < b.toInt) : (0 : Int32) < b := by
  rw [Int32.lt_iff_toInt_lt]
  exact hb
theorem ti_mod {a b : Int32} (hb : 0 < b.toInt) : (imod a b).toInt = a.toInt % b.toInt := by
  unfold imod
  rw [if_pos (i_pos hb)]
  have hy := ti_rem0 (a := a) hb
  have ht := Int.tmod_eq_emod (a := a.toInt) (b := b.toInt)
  have h4 := Int.emod_nonneg a.toInt (show b.toInt ≠ 0 by omega)
  have h5 := Int.emod_lt_of_pos a.toInt hb
  have h6 : (b.toInt.natAbs : Int) = b.toInt := Int.natAbs_of_nonneg (by omega)
  have rb := ti_rng b
  generalize a - a / b * b = y at hy
  by_cases ha : a.toInt < 0
  · rw [if_neg (fun h => by have := (xor_sg a b).mp h; omega)]
    by_cases hd : b.toInt ∣ a.toInt
    · have h8 := Int.emod_eq_zero_of_dvd hd
      rw [if_pos (Or.inr hd)] at ht
      have h9 : y = 0 := Int32.toInt_inj.mp (by rw [hy, ht, h8]; rfl)
      rw [if_pos h9, h9, h8]
      rfl
    · have h7 : ¬ (0 ≤ a.toInt ∨ b.toInt ∣ a.toInt) := by
        rintro (h | h)
        · omega
        · exact hd h
      rw [if_neg h7] at ht
      have h9 : ¬ y = 0 := fun h => by
        have h10 : y.toInt = 0 := by rw [h]; rfl
        omega
      rw [if_neg h9, ti_add (by omega) (by omega)]
      omega
  · rw [if_pos ((xor_sg a b).mpr (by omega)), hy, ht, if_pos (Or.inl (by omega))]
    omega
theorem imod_rem {a b : Int32} (ha : 0 ≤ a.toInt) (hb : 0 < b.toInt) : imod a b = a - a / b * b := Int32.toInt_inj.mp (by rw [ti_mod hb, ti_rem ha hb])
theorem ti_and255 (x : Int32) : (x &&& 255).toInt = x.toInt % 256 := by
  have h1 : (x &&& 255).toBitVec.toNat = x.toBitVec.toNat % 256 := by
    rw [Int32.toBitVec_and, BitVec.toNat_and]
    exact Nat.and_two_pow_sub_one_eq_mod _ 8
  have h2 := BitVec.toInt_eq_toNat_cond (x &&& 255).toBitVec
  have h3 := BitVec.toInt_eq_toNat_cond x.toBitVec
  have h4 := x.toBitVec.isLt
  rw [h1] at h2
  rw [Int32.toInt_toBitVec] at h2 h3
  split at h3 <;> split at h2 <;> omega
theorem ti_and1023 (x : Int32) : (x &&& 1023).toInt = x.toInt % 1024 := by
  have h1 : (x &&& 1023).toBitVec.toNat = x.toBitVec.toNat % 1024 := by
    rw [Int32.toBitVec_and, BitVec.toNat_and]
    exact Nat.and_two_pow_sub_one_eq_mod _ 10
  have h2 := BitVec.toInt_eq_toNat_cond (x &&& 1023).toBitVec
  have h3 := BitVec.toInt_eq_toNat_cond x.toBitVec
  have h4 := x.toBitVec.isLt
  rw [h1] at h2
  rw [Int32.toInt_toBitVec] at h2 h3
  split at h3 <;> split at h2 <;> omega
theorem ti_and32767 (x : Int32) : (x &&& 32767).toInt = x.toInt % 32768 := by
  have h1 : (x &&& 32767).toBitVec.toNat = x.toBitVec.toNat % 32768 := by
    rw [Int32.toBitVec_and, BitVec.toNat_and]
    exact Nat.and_two_pow_sub_one_eq_mod _ 15
  have h2 := BitVec.toInt_eq_toNat_cond (x &&& 32767).toBitVec
  have h3 := BitVec.toInt_eq_toNat_cond x.toBitVec
  have h4 := x.toBitVec.isLt
  rw [h1] at h2
  rw [Int32.toInt_toBitVec] at h2 h3
  split at h3 <;> split at h2 <;> omega
theorem ti_and31 (x : Int32) : (x &&& 31).toInt = x.toInt % 32 := by
  have h1 : (x &&& 31).toBitVec.toNat = x.toBitVec.toNat % 32 := by
    rw [Int32.toBitVec_and, BitVec.toNat_and]
    exact Nat.and_two_pow_sub_one_eq_mod _ 5
  have h2 := BitVec.toInt_eq_toNat_cond (x &&& 31).toBitVec
  have h3 := BitVec.toInt_eq_toNat_cond x.toBitVec
  have h4 := x.toBitVec.isLt
  rw [h1] at h2
  rw [Int32.toInt_toBitVec] at h2 h3
  split at h3 <;> split at h2 <;> omega
theorem ti_and1 (x : Int32) : (x &&& 1).toInt = x.toInt % 2 := by
  have h1 : (x &&& 1).toBitVec.toNat = x.toBitVec.toNat % 2 := by
    rw [Int32.toBitVec_and, BitVec.toNat_and]
    exact Nat.and_two_pow_sub_one_eq_mod _ 1
  have h2 := BitVec.toInt_eq_toNat_cond (x &&& 1).toBitVec
  have h3 := BitVec.toInt_eq_toNat_cond x.toBitVec
  have h4 := x.toBitVec.isLt
  rw [h1] at h2
  rw [Int32.toInt_toBitVec] at h2 h3
  split at h3 <;> split at h2 <;> omega
theorem imod256 (x : Int32) : imod x 256 = x &&& 255 := Int32.toInt_inj.mp (by rw [ti_mod (by decide), ti_and255]; rfl)
theorem i_sub1 {k : Nat} (hk : k + 1 < 2 ^ 31) : Int32.ofNat (k + 1) - 1 = Int32.ofNat k := by
  rw [← i_add1 hk]
  exact Int32.toInt_inj.mp (by rw [Int32.toInt_sub, Int32.toInt_add]; simp)
theorem i_addm1 {k : Nat} (hk : k + 1 < 2 ^ 31) : Int32.ofNat (k + 1) + -1 = Int32.ofNat k := by
  rw [← Int32.sub_eq_add_neg]
  exact i_sub1 hk
theorem nat_of {a : Int32} (ha : 0 ≤ a.toInt) : a = Int32.ofNat a.toInt.toNat := Int32.toInt_inj.mp (by
  have := ti_rng a
  rw [Int32.toInt_ofNat_of_lt (by omega)]
  omega)
theorem at_nat {M : Mem} {r n k : Nat} (hk : k < n) (hn : n < 2 ^ 31) : f_X10_at r n (Int32.ofNat k) M = some (M.1 r k, M) := by
  rw [e_at _ hn]
  have g1 : ¬ Int32.ofNat k < 0 := fun h => by
    rw [Int32.lt_iff_toInt_lt, Int32.toInt_ofNat_of_lt (by omega)] at h
    have e0 : (0 : Int32).toInt = 0 := rfl
    omega
  have g2 : ¬ Int32.ofNat n ≤ Int32.ofNat k := fun h => by
    have := (i_le (by omega) (by omega)).mp h
    omega
  unfold aget
  rw [if_neg g1, if_neg g2, i_nn (by omega)]
theorem put_nat {M : Mem} {r n k : Nat} {v : Int32} (hk : k < n) (hn : n < 2 ^ 31) : f_X10_put r n (Int32.ofNat k) v M = some ((), wi M r k v) := by
  rw [e_put _ hn]
  have g1 : ¬ Int32.ofNat k < 0 := fun h => by
    rw [Int32.lt_iff_toInt_lt, Int32.toInt_ofNat_of_lt (by omega)] at h
    have e0 : (0 : Int32).toInt = 0 := rfl
    omega
  have g2 : ¬ Int32.ofNat n ≤ Int32.ofNat k := fun h => by
    have := (i_le (by omega) (by omega)).mp h
    omega
  unfold aput
  rw [if_neg g1, if_neg g2, i_nn (by omega)]
theorem Wp.j0 {τ : Type} {K : Unit → Option τ} {b : (Unit → Option τ) → Option τ} {P : τ → Prop} (h : Wp (b K) P) : Wp (jn0 K b) P := h
theorem Wp.j1 {α0 τ : Type} {K : α0 → Option τ} {b : (α0 → Option τ) → Option τ} {P : τ → Prop} (h : Wp (b K) P) : Wp (jn1 K b) P := h
theorem Wp.j2 {α0 α1 τ : Type} {K : α0 → α1 → Option τ} {b : (α0 → α1 → Option τ) → Option τ} {P : τ → Prop} (h : Wp (b K) P) : Wp (jn2 K b) P := h
theorem Wp.j3 {α0 α1 α2 τ : Type} {K : α0 → α1 → α2 → Option τ} {b : (α0 → α1 → α2 → Option τ) → Option τ} {P : τ → Prop} (h : Wp (b K) P) : Wp (jn3 K b) P := h
theorem Wp.ps {τ : Type} {c : Prop} [Decidable c] {a b : Option τ} {P : τ → Prop} (h : c) (k : Wp a P) : Wp (if c then a else b) P := by
  rw [if_pos h]
  exact k
theorem Wp.ng {τ : Type} {c : Prop} [Decidable c] {a b : Option τ} {P : τ → Prop} (h : ¬ c) (k : Wp b P) : Wp (if c then a else b) P := by
  rw [if_neg h]
  exact k
theorem Wp.cl {α τ : Type} {o : Option (α × Mem)} {v : α} {M : Mem} {K : α → Mem → Option τ} {P : τ → Prop} (h : o = some (v, M)) (k : Wp (K v M) P) : Wp (bd o K) P := by
  rw [bd_eq h]
  exact k
theorem Wp.eq {τ : Type} {o : Option τ} {r : τ} (h : Wp o (fun q => q = r)) : o = some r := by
  obtain ⟨v, e, rfl⟩ := h
  exact e
