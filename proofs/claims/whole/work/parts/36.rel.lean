/-! What ties a world of the class to the model's row. -/
def scl : List (Nat × Nat × Nat) := [(0, 0, 0), (1, 2, 1), (1, 3, 2), (1, 4, 3), (6, 1, 4), (6, 2, 5), (9, 0, 6), (9, 1, 7), (5, 0, 8), (5, 7, 9), (5, 6, 10), (5, 8, 11), (5, 9, 12), (9, 2, 13), (6, 0, 14), (6, 5, 15), (6, 4, 16), (6, 6, 17), (6, 8, 19), (6, 3, 20), (1, 1, 22), (5, 5, 23), (1, 5, 24), (1, 6, 25), (1, 7, 26), (1, 0, 27), (5, 2, 28), (5, 1, 29), (1, 8, 31), (9, 4, 32)]
def Sc (c : CW) (r : Nat → Int32) : Prop := ∀ q ∈ scl, c q.1 q.2.1 = r q.2.2
theorem Sc.g0 {c : CW} {r : Nat → Int32} (h : Sc c r) : c 0 0 = r 0 := h (0, 0, 0) (by decide)
theorem Sc.g1 {c : CW} {r : Nat → Int32} (h : Sc c r) : c 1 2 = r 1 := h (1, 2, 1) (by decide)
theorem Sc.g2 {c : CW} {r : Nat → Int32} (h : Sc c r) : c 1 3 = r 2 := h (1, 3, 2) (by decide)
theorem Sc.g3 {c : CW} {r : Nat → Int32} (h : Sc c r) : c 1 4 = r 3 := h (1, 4, 3) (by decide)
theorem Sc.g4 {c : CW} {r : Nat → Int32} (h : Sc c r) : c 6 1 = r 4 := h (6, 1, 4) (by decide)
theorem Sc.g5 {c : CW} {r : Nat → Int32} (h : Sc c r) : c 6 2 = r 5 := h (6, 2, 5) (by decide)
theorem Sc.g6 {c : CW} {r : Nat → Int32} (h : Sc c r) : c 9 0 = r 6 := h (9, 0, 6) (by decide)
theorem Sc.g7 {c : CW} {r : Nat → Int32} (h : Sc c r) : c 9 1 = r 7 := h (9, 1, 7) (by decide)
theorem Sc.g8 {c : CW} {r : Nat → Int32} (h : Sc c r) : c 5 0 = r 8 := h (5, 0, 8) (by decide)
theorem Sc.g9 {c : CW} {r : Nat → Int32} (h : Sc c r) : c 5 7 = r 9 := h (5, 7, 9) (by decide)
theorem Sc.g10 {c : CW} {r : Nat → Int32} (h : Sc c r) : c 5 6 = r 10 := h (5, 6, 10) (by decide)
theorem Sc.g11 {c : CW} {r : Nat → Int32} (h : Sc c r) : c 5 8 = r 11 := h (5, 8, 11) (by decide)
theorem Sc.g12 {c : CW} {r : Nat → Int32} (h : Sc c r) : c 5 9 = r 12 := h (5, 9, 12) (by decide)
theorem Sc.g13 {c : CW} {r : Nat → Int32} (h : Sc c r) : c 9 2 = r 13 := h (9, 2, 13) (by decide)
theorem Sc.g14 {c : CW} {r : Nat → Int32} (h : Sc c r) : c 6 0 = r 14 := h (6, 0, 14) (by decide)
theorem Sc.g15 {c : CW} {r : Nat → Int32} (h : Sc c r) : c 6 5 = r 15 := h (6, 5, 15) (by decide)
theorem Sc.g16 {c : CW} {r : Nat → Int32} (h : Sc c r) : c 6 4 = r 16 := h (6, 4, 16) (by decide)
theorem Sc.g17 {c : CW} {r : Nat → Int32} (h : Sc c r) : c 6 6 = r 17 := h (6, 6, 17) (by decide)
theorem Sc.g19 {c : CW} {r : Nat → Int32} (h : Sc c r) : c 6 8 = r 19 := h (6, 8, 19) (by decide)
theorem Sc.g20 {c : CW} {r : Nat → Int32} (h : Sc c r) : c 6 3 = r 20 := h (6, 3, 20) (by decide)
theorem Sc.g22 {c : CW} {r : Nat → Int32} (h : Sc c r) : c 1 1 = r 22 := h (1, 1, 22) (by decide)
theorem Sc.g23 {c : CW} {r : Nat → Int32} (h : Sc c r) : c 5 5 = r 23 := h (5, 5, 23) (by decide)
theorem Sc.g24 {c : CW} {r : Nat → Int32} (h : Sc c r) : c 1 5 = r 24 := h (1, 5, 24) (by decide)
theorem Sc.g25 {c : CW} {r : Nat → Int32} (h : Sc c r) : c 1 6 = r 25 := h (1, 6, 25) (by decide)
theorem Sc.g26 {c : CW} {r : Nat → Int32} (h : Sc c r) : c 1 7 = r 26 := h (1, 7, 26) (by decide)
theorem Sc.g27 {c : CW} {r : Nat → Int32} (h : Sc c r) : c 1 0 = r 27 := h (1, 0, 27) (by decide)
theorem Sc.g28 {c : CW} {r : Nat → Int32} (h : Sc c r) : c 5 2 = r 28 := h (5, 2, 28) (by decide)
theorem Sc.g29 {c : CW} {r : Nat → Int32} (h : Sc c r) : c 5 1 = r 29 := h (5, 1, 29) (by decide)
theorem Sc.g31 {c : CW} {r : Nat → Int32} (h : Sc c r) : c 1 8 = r 31 := h (1, 8, 31) (by decide)
theorem Sc.g32 {c : CW} {r : Nat → Int32} (h : Sc c r) : c 9 4 = r 32 := h (9, 4, 32) (by decide)
theorem Sc.up {c : CW} {r : Nat → Int32} {d k i : Nat} {v v' : Int32} (h : Sc c r) (hv : v = v') (hm : (scl.all fun q => (q.1 == d && q.2.1 == k) == (q.2.2 == i)) = true) : Sc (uc c d k v) (rup r i v') := by
  intro q hq
  have h1 := List.all_eq_true.mp hm q hq
  have h2 := h q hq
  simp only [uc, rup]
  by_cases h3 : q.1 = d ∧ q.2.1 = k
  · have h4 : q.2.2 = i := by simpa [h3.1, h3.2] using h1
    rw [if_pos h3, if_pos h4, hv]
  · have h4 : ¬ q.2.2 = i := fun e => by
      rw [e] at h1
      simp at h1
      exact h3 h1
    rw [if_neg h3, if_neg h4, h2]
theorem Sc.uR {c : CW} {r : Nat → Int32} {i : Nat} {v : Int32} (h : Sc c r) (hm : (scl.all fun q => !(q.2.2 == i)) = true) : Sc c (rup r i v) := by
  intro q hq
  have h1 := List.all_eq_true.mp hm q hq
  have h4 : ¬ q.2.2 = i := by simpa using h1
  rw [rup_o h4]
  exact h q hq
theorem Sc.uRa {c : CW} {r : Nat → Int32} {i : Nat} {v : Int32} (h : Sc c r) (hi : 33 ≤ i) : Sc c (rup r i v) := by
  intro q hq
  have h1 : (scl.all fun q => decide (q.2.2 < 33)) = true := by decide
  have h2 := List.all_eq_true.mp h1 q hq
  have h4 : q.2.2 < 33 := by simpa using h2
  rw [rup_o (by omega)]
  exact h q hq
theorem Sc.uC {c : CW} {r : Nat → Int32} {d k : Nat} {v : Int32} (h : Sc c r) (hm : (scl.all fun q => !(q.1 == d && q.2.1 == k)) = true) : Sc (uc c d k v) r := by
  intro q hq
  have h1 := List.all_eq_true.mp hm q hq
  have h4 : ¬ (q.1 = d ∧ q.2.1 = k) := fun e => by simp [e.1, e.2] at h1
  simp only [uc]
  rw [if_neg h4]
  exact h q hq
theorem Sc.uCa {c : CW} {r : Nat → Int32} {d k : Nat} {v : Int32} (h : Sc c r) (hm : (scl.all fun q => !(q.1 == d)) = true) : Sc (uc c d k v) r := by
  intro q hq
  have h1 := List.all_eq_true.mp hm q hq
  have h4 : ¬ q.1 = d := by simpa using h1
  simp only [uc]
  rw [if_neg (fun e => h4 e.1)]
  exact h q hq
theorem Sc.cg {c c' : CW} {r r' : Nat → Int32} (h : Sc c r) (e1 : ∀ q ∈ scl, c' q.1 q.2.1 = c q.1 q.2.1) (e2 : ∀ j, j < 33 → r' j = r j) : Sc c' r' := fun q hq => by
  have h1 : (scl.all fun q => decide (q.2.2 < 33)) = true := by decide
  have h2 := List.all_eq_true.mp h1 q hq
  rw [e1 q hq, e2 _ (by simpa using h2)]
  exact h q hq
/-! groups of facts of the row -/
def gF (A : Int) (r : Nat → Int32) : Prop := 0 ≤ (r 1).toInt ∧ 0 ≤ (r 22).toInt ∧ 1000 * (r 1).toInt + (r 22).toInt ≤ A ∧ 0 ≤ (r 2).toInt ∧ (r 2).toInt ≤ (r 1).toInt ∧ -99 ≤ (r 27).toInt ∧ (r 27).toInt ≤ 99
def gN (B C D : Int) (r : Nat → Int32) : Prop := 0 ≤ (r 6).toInt ∧ 0 ≤ (r 23).toInt ∧ 1000 * (r 6).toInt + (r 23).toInt ≤ B ∧ 0 ≤ (r 7).toInt ∧ (r 7).toInt ≤ (r 6).toInt ∧ (r 8 = 0 ∨ r 8 = 1 ∨ r 8 = 2) ∧ -200 ≤ (r 9).toInt ∧ (r 9).toInt ≤ 200 ∧ -C ≤ (r 11).toInt ∧ (r 11).toInt ≤ C ∧ 0 ≤ (r 12).toInt ∧ (r 12).toInt ≤ (r 6).toInt ∧ 0 ≤ (r 14).toInt ∧ (r 14).toInt ≤ 504 + (r 6).toInt ∧ 0 ≤ (r 15).toInt ∧ (r 15).toInt ≤ (r 14).toInt ∧ 0 ≤ (r 30).toInt ∧ (r 30).toInt ≤ 63 ∧ 0 ≤ (r 32).toInt ∧ (r 32).toInt ≤ D
def gQA (C : Int) (r : Nat → Int32) : Prop := ∀ k, k < 128 → (-C ≤ (r (281 + k)).toInt ∧ (r (281 + k)).toInt ≤ C) ∧ (0 ≤ (r (409 + k)).toInt ∧ (r (409 + k)).toInt ≤ 255) ∧ (r (537 + k) = 0 ∨ r (537 + k) = 1)
def gQS (n : Int) (r : Nat → Int32) : Prop := (0 ≤ (r 16).toInt ∧ (r 16).toInt ≤ n) ∧ ∀ k, k < 64 → (r (153 + k) = -1 ∧ r (217 + k) = -1) ∨ (¬ r 8 = 0 ∧ 0 ≤ (r (153 + k)).toInt ∧ (r (153 + k)).toInt ≤ n ∧ 0 ≤ (r (217 + k)).toInt ∧ (r (217 + k)).toInt % 64 = k ∧ (r (217 + k)).toInt ≤ (r 18).toInt)
def gQT (z : Int32) (r : Nat → Int32) : Prop := ¬ r 8 = 0 → (0 ≤ (r 18).toInt ∧ (r 18).toInt ≤ (r 14).toInt / z.toInt + 15) ∧ r 21 = r 18 - r 17 ∧ ((r 14).toInt / z.toInt ≤ (r 18).toInt → r (217 + ((r 18).toInt % 64).toNat) = r 18) ∧ (r 14 = r 15 → (r (217 + ((r 14).toInt / z.toInt % 64).toNat)).toInt = (r 14).toInt / z.toInt)
def gQL (m : Nat) (n : Int) (r : Nat → Int32) : Prop := ∀ k, k < m → 0 ≤ (r (33 + 3 * k)).toInt ∧ (r (33 + 3 * k)).toInt ≤ n
def gQD (q n : Int) (r : Nat → Int32) : Prop := 0 ≤ (r 4).toInt ∧ 0 ≤ (r 5).toInt ∧ (r 4).toInt + (r 5).toInt + q ≤ n
/-! rows -/
def aL (m : Nat) (c : CW) (r : Nat → Int32) : Prop := ∀ k, k < m → c 2 k = r (33 + 3 * k) ∧ c 3 k = r (33 + 3 * k + 1) ∧ c 4 k = r (33 + 3 * k + 2)
def aS (c : CW) (r : Nat → Int32) : Prop := ∀ k, k < 64 → c 7 k = r (217 + k) ∧ (¬ r (217 + k) = -1 → c 8 k = r (153 + k))
def aO (c : CW) (r : Nat → Int32) : Prop := ∀ k : Nat, k < 128 → (k : Int) < (r 6).toInt → c 10 k = if r (537 + k) = 0 then r (409 + k) else r (409 + k) + 256
def aM (c : CW) (r : Nat → Int32) : Prop := ∀ k : Nat, k < 128 → (k : Int) < (r 32).toInt → c 11 k = r (281 + k)
def aT (c : CW) (r : Nat → Int32) : Prop := ¬ r 8 = 0 → c 6 7 = r 18
def aR (c : CW) (r : Nat → Int32) : Prop := c 9 3 = r 30 ∨ (c 9 3 = 64 ∧ r 30 = 0 ∧ (r 8 = 0 ∨ r 14 = r 15))
theorem gN.cg {B C D : Int} {r r' : Nat → Int32} (h : gN B C D r) (e : ∀ j, j ∈ [6, 7, 8, 9, 11, 12, 14, 15, 23, 30, 32] → r' j = r j) : gN B C D r' := by
  unfold gN
  rw [e 6 (by decide), e 7 (by decide), e 8 (by decide), e 9 (by decide), e 11 (by decide), e 12 (by decide), e 14 (by decide), e 15 (by decide), e 23 (by decide), e 30 (by decide), e 32 (by decide)]
  exact h
theorem gF.cg {A : Int} {r r' : Nat → Int32} (h : gF A r) (e : ∀ j, j ∈ [1, 2, 22, 27] → r' j = r j) : gF A r' := by
  unfold gF
  rw [e 1 (by decide), e 2 (by decide), e 22 (by decide), e 27 (by decide)]
  exact h
theorem gQA.cg {C : Int} {r r' : Nat → Int32} (h : gQA C r) (e : ∀ j, 281 ≤ j → r' j = r j) : gQA C r' := fun k hk => by
  rw [e _ (by omega), e _ (by omega), e _ (by omega)]
  exact h k hk
theorem gQS.cg {n n' : Int} {r r' : Nat → Int32} (h : gQS n r) (hn : n ≤ n') (e : ∀ j, j = 8 ∨ j = 16 ∨ j = 18 ∨ (153 ≤ j ∧ j < 281) → r' j = r j) : gQS n' r' := by
  refine ⟨by rw [e 16 (by omega)]; have := h.1; omega, fun k hk => ?_⟩
  rw [e 8 (by omega), e 18 (by omega), e (153 + k) (by omega), e (217 + k) (by omega)]
  rcases h.2 k hk with h | ⟨h1, h2, h3, h4⟩
  · exact Or.inl h
  · exact Or.inr ⟨h1, h2, by omega, h4⟩
theorem gQT.cg {z : Int32} {r r' : Nat → Int32} (h : gQT z r) (e : ∀ j, (j = 8 ∨ j = 14 ∨ j = 15 ∨ j = 17 ∨ j = 18 ∨ j = 21 ∨ (153 ≤ j ∧ j < 281)) → r' j = r j) : gQT z r' := by
  have h1 := Int.emod_lt_of_pos (r 18).toInt (show (0 : Int) < 64 by decide)
  have h2 := Int.emod_nonneg (r 18).toInt (show (64 : Int) ≠ 0 by decide)
  have h3 := Int.emod_lt_of_pos ((r 14).toInt / z.toInt) (show (0 : Int) < 64 by decide)
  have h4 := Int.emod_nonneg ((r 14).toInt / z.toInt) (show (64 : Int) ≠ 0 by decide)
  unfold gQT
  rw [e 8 (by omega), e 14 (by omega), e 15 (by omega), e 17 (by omega), e 18 (by omega), e 21 (by omega), e (217 + ((r 18).toInt % 64).toNat) (by omega), e (217 + ((r 14).toInt / z.toInt % 64).toNat) (by omega)]
  exact h
theorem gQL.cg {m : Nat} {n n' : Int} {r r' : Nat → Int32} (h : gQL m n r) (hn : n ≤ n') (e : ∀ k, k < m → r' (33 + 3 * k) = r (33 + 3 * k)) : gQL m n' r' := fun k hk => by
  rw [e k hk]
  have := h k hk
  omega
theorem gQD.cg {q q' n n' : Int} {r r' : Nat → Int32} (h : gQD q n r) (hn : n - q ≤ n' - q') (e4 : r' 4 = r 4) (e5 : r' 5 = r 5) : gQD q' n' r' := by
  unfold gQD at h ⊢
  rw [e4, e5]
  omega
theorem aL.cg {m : Nat} {c c' : CW} {r r' : Nat → Int32} (h : aL m c r) (ec : ∀ d k, d = 2 ∨ d = 3 ∨ d = 4 → k < m → c' d k = c d k) (er : ∀ j, 33 ≤ j → j < 33 + 3 * m → r' j = r j) : aL m c' r' := fun k hk => by
  rw [ec 2 k (by omega) hk, ec 3 k (by omega) hk, ec 4 k (by omega) hk, er _ (by omega) (by omega), er _ (by omega) (by omega), er _ (by omega) (by omega)]
  exact h k hk
theorem aS.cg {c c' : CW} {r r' : Nat → Int32} (h : aS c r) (ec : ∀ d k, d = 7 ∨ d = 8 → c' d k = c d k) (er : ∀ j, 153 ≤ j → j < 281 → r' j = r j) : aS c' r' := fun k hk => by
  rw [ec 7 k (by omega), ec 8 k (by omega), er _ (by omega) (by omega), er _ (by omega) (by omega)]
  exact h k hk
theorem aO.cg {c c' : CW} {r r' : Nat → Int32} (h : aO c r) (ec : ∀ k, c' 10 k = c 10 k) (er : ∀ j, j = 6 ∨ (409 ≤ j ∧ j < 665) → r' j = r j) : aO c' r' := fun k hk => by
  rw [ec k, er 6 (by omega), er _ (by omega), er _ (by omega)]
  exact h k hk
theorem aM.cg {c c' : CW} {r r' : Nat → Int32} (h : aM c r) (ec : ∀ k, c' 11 k = c 11 k) (er : ∀ j, j = 32 ∨ (281 ≤ j ∧ j < 409) → r' j = r j) : aM c' r' := fun k hk => by
  rw [ec k, er 32 (by omega), er _ (by omega)]
  exact h k hk
theorem aT.cg {c c' : CW} {r r' : Nat → Int32} (h : aT c r) (ec : c' 6 7 = c 6 7) (e8 : r' 8 = r 8) (e18 : r' 18 = r 18) : aT c' r' := by
  unfold aT
  rw [ec, e8, e18]
  exact h
theorem aR.cg {c c' : CW} {r r' : Nat → Int32} (h : aR c r) (ec : c' 9 3 = c 9 3) (er : ∀ j, j ∈ [8, 14, 15, 30] → r' j = r j) : aR c' r' := by
  unfold aR
  rw [ec, er 8 (by decide), er 14 (by decide), er 15 (by decide), er 30 (by decide)]
  exact h
/-- a storm's fates -/
def revn : Nat → Nat → Nat
  | 0, _ => 0
  | n + 1, k => (k / 2 ^ n) % 2 + 2 * revn n k
def FT (fa fs s sl : Int32) : Prop := fa = s ∧ (s = 0 ∨ ∃ n k : Nat, n < 5 ∧ k < 32 ∧ s = Int32.ofNat (n + 1) ∧ sl = Int32.ofNat k ∧ fs = Int32.ofNat (revn (n + 1) k))
theorem rev_bit : ∀ n, n < 5 → ∀ k, k < 32 → (¬ Int32.ofNat (n + 1) ≤ 0) ∧ ((Int32.ofNat (revn (n + 1) k) &&& 1 = 0) ↔ ¬ (((Int32.ofNat k >>> ((Int32.ofNat (n + 1) - 1) &&& 31)) &&& 1) = 1)) ∧ Int32.ofNat (revn (n + 1) k) >>> ((1 : Int32) &&& 31) = Int32.ofNat (revn n k) ∧ Int32.ofNat (n + 1) - 1 = Int32.ofNat n := by decide +kernel
/-- class and model stand alike -/
def Core (z p i : Int32) (A B C D : Int) (c : CW) (r : Nat → Int32) : Prop := Sc c r ∧ c 5 3 = p ∧ c 5 4 = i ∧ gF A r ∧ gN B C D r ∧ gQA C r ∧ gQS (r 2).toInt r ∧ gQT z r ∧ aS c r ∧ aO c r ∧ aM c r ∧ aT c r ∧ aR c r
def Rl (z p i : Int32) (A B C D : Int) (m : Nat) (c : CW) (r : Nat → Int32) (s sl : Int32) : Prop := Core z p i A B C D c r ∧ r 31 = Int32.ofNat m ∧ m ≤ 40 ∧ aL m c r ∧ gQL m (r 2).toInt r ∧ gQD m (r 2).toInt r ∧ FT (c 1 12) (c 1 13) s sl
theorem cput_nat {c : CW} {d n k : Nat} {v : Int32} (hk : k < n) (hn : n < 2 ^ 31) : cput c d n (Int32.ofNat k) v = uc c d k v := by
  have g1 : ¬ Int32.ofNat k < 0 := fun h => by
    rw [Int32.lt_iff_toInt_lt, Int32.toInt_ofNat_of_lt (by omega)] at h
    have e0 : (0 : Int32).toInt = 0 := rfl
    omega
  have g2 : ¬ Int32.ofNat n ≤ Int32.ofNat k := i64_lt hn hk
  unfold cput
  rw [if_neg g1, if_neg g2, i_nn (by omega)]
theorem cget_nat {c : CW} {d n k : Nat} (hk : k < n) (hn : n < 2 ^ 31) : cget c d n (Int32.ofNat k) = c d k := by
  have g1 : ¬ Int32.ofNat k < 0 := fun h => by
    rw [Int32.lt_iff_toInt_lt, Int32.toInt_ofNat_of_lt (by omega)] at h
    have e0 : (0 : Int32).toInt = 0 := rfl
    omega
  have g2 : ¬ Int32.ofNat n ≤ Int32.ofNat k := i64_lt hn hk
  unfold cget
  rw [if_neg g1, if_neg g2, i_nn (by omega)]
theorem uc_o {c : CW} {d k d' k' : Nat} {v : Int32} (h : ¬ (d' = d ∧ k' = k)) : uc c d k v d' k' = c d' k' := by
  simp only [uc]
  rw [if_neg h]
theorem uc_s {c : CW} {d k : Nat} {v : Int32} : uc c d k v d k = v := by simp [uc]
/-- a packet is lost, or not -/
theorem lost_ok {c : CW} {r : Nat → Int32} {s sl f : Int32} {m : Nat} (hS : Sc c r) (hm : r 31 = Int32.ofNat m) (h40 : m ≤ 40) (hF : FT (c 1 12) (c 1 13) s sl) : (lostC f c).1 = (lostR f s sl r).1 ∧ Sc (lostC f c).2 (lostR f s sl r).2.2 ∧ FT ((lostC f c).2 1 12) ((lostC f c).2 1 13) (lostR f s sl r).2.1 sl ∧ (∀ d k, ¬ (d = 1 ∧ (k = 6 ∨ k = 12 ∨ k = 13)) → (lostC f c).2 d k = c d k) := by
  have hfin : (if f = 0 then (if c 1 8 < 40 then 0 else 1) else 1 : Int32) = finR f r := by
    unfold finR
    rw [hS.g31, hm]
    by_cases h : m = 40
    · subst h
      rfl
    · have h1 : Int32.ofNat m < 40 := (i_lt (a := m) (b := 40) (by omega) (by decide)).mpr (by omega)
      have h2 : ¬ Int32.ofNat m = 40 := fun e => by
        rw [e] at h1
        exact absurd h1 (by decide)
      rw [if_pos h1, if_neg h2]
  obtain ⟨hfs, hF⟩ := hF
  have sc6 : Sc c r → Sc (uc c 1 6 (c 1 6 - 1)) (rup r 25 (r 25 - 1)) := fun h => h.up (by rw [h.g25]) (by decide)
  have sc12 : Sc (uc (uc c 1 12 (c 1 12 - 1)) 1 13 (c 1 13 >>> (1 &&& 31))) r := (hS.uC (by decide)).uC (by decide)
  rcases hF with h0 | ⟨n, k, hn, hk, e1, e2, e3⟩
  · have hs : s ≤ 0 := by rw [h0]; decide
    have hc : c 1 12 ≤ 0 := by rw [hfs]; exact hs
    unfold lostC lostR
    by_cases h6 : r 25 ≤ 0
    · have h6' : c 1 6 ≤ 0 := by rw [hS.g25]; exact h6
      simp only [if_pos hs, if_pos hc, if_pos h6, if_pos h6']
      exact ⟨hfin, hS, ⟨hfs, Or.inl h0⟩, fun d k _ => trivial⟩
    · have h6' : ¬ c 1 6 ≤ 0 := by rw [hS.g25]; exact h6
      simp only [if_pos hs, if_pos hc, if_neg h6, if_neg h6']
      refine ⟨trivial, sc6 hS, ⟨?_, Or.inl h0⟩, fun d k h => ?_⟩
      · rw [uc_o (by decide)]; exact hfs
      · rw [uc_o (fun e => h ⟨e.1, Or.inl e.2⟩)]
  · obtain ⟨b1, b2, b3, b4⟩ := rev_bit n hn k hk
    have hs : ¬ s ≤ 0 := by rw [e1]; exact b1
    have hc : ¬ c 1 12 ≤ 0 := by rw [hfs]; exact hs
    have hft : FT ((uc (uc c 1 12 (c 1 12 - 1)) 1 13 (c 1 13 >>> (1 &&& 31))) 1 12) ((uc (uc c 1 12 (c 1 12 - 1)) 1 13 (c 1 13 >>> (1 &&& 31))) 1 13) (s - 1) sl := by
      rw [uc_o (by decide), uc_s, uc_s]
      refine ⟨by rw [hfs], ?_⟩
      rw [e1, b4]
      cases n with
      | zero => exact Or.inl rfl
      | succ n => exact Or.inr ⟨n, k, by omega, hk, rfl, e2, by rw [e3]; exact b3⟩
    have hfr : ∀ d j, ¬ (d = 1 ∧ (j = 6 ∨ j = 12 ∨ j = 13)) → uc (uc c 1 12 (c 1 12 - 1)) 1 13 (c 1 13 >>> (1 &&& 31)) d j = c d j := fun d j h => by
      rw [uc_o (fun e => h ⟨e.1, Or.inr (Or.inr e.2)⟩), uc_o (fun e => h ⟨e.1, Or.inr (Or.inl e.2)⟩)]
    have hfin2 : (if f = 0 then (if uc (uc c 1 12 (c 1 12 - 1)) 1 13 (c 1 13 >>> (1 &&& 31)) 1 8 < 40 then 0 else 1) else 1 : Int32) = finR f r := by
      rw [hfr 1 8 (by decide)]
      exact hfin
    unfold lostC lostR
    by_cases hb : c 1 13 &&& 1 = 0
    · have hb2 : ¬ (((sl >>> ((s - 1) &&& 31)) &&& 1) = 1) := by
        rw [e2, e1]
        exact b2.mp (by rw [← e3]; exact hb)
      simp only [if_neg hs, if_neg hc, if_pos hb, if_neg hb2]
      exact ⟨hfin2, sc12, hft, hfr⟩
    · have hb2 : (((sl >>> ((s - 1) &&& 31)) &&& 1) = 1) := by
        rw [e2, e1]
        exact Decidable.not_not.mp (fun h => hb (by rw [e3]; exact b2.mpr h))
      simp only [if_neg hs, if_neg hc, if_neg hb, if_pos hb2]
      exact ⟨trivial, sc12, hft, hfr⟩
