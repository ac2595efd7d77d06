/-! What stands at the beginning is alike -/
def r0 (L : LN) : Nat → Int32 := fun j => if j = 29 then L.1 1 else if j = 27 then L.1 5 else if 153 ≤ j ∧ j < 281 then -1 else 0
theorem begC_7 {L : LN} {c : CW} {k : Nat} (hk : k < 64) : begC L c 7 k = -1 := by
  unfold begC empC
  rw [uc_o (by omega), uc_o (by omega), uc_o (by omega), uc_o (by omega), uc_o (by omega)]
  simp only [ucf]
  rw [if_pos ⟨trivial, hk⟩]
theorem begC_sc {L : LN} {c : CW} : Sc (begC L c) (r0 L) := by
  intro q hq
  simp only [scl, List.mem_cons, List.not_mem_nil, or_false] at hq
  rcases hq with e | e | e | e | e | e | e | e | e | e | e | e | e | e | e | e | e | e | e | e | e | e | e | e | e | e | e | e | e | e <;> subst e <;> rfl
theorem r0_0 {L : LN} {j : Nat} (h1 : ¬ j = 29) (h2 : ¬ j = 27) (h3 : ¬ (153 ≤ j ∧ j < 281)) : r0 L j = 0 := by
  unfold r0
  rw [if_neg h1, if_neg h2, if_neg h3]
theorem r0_s {L : LN} {j : Nat} (h : 153 ≤ j ∧ j < 281) : r0 L j = -1 := by
  unfold r0
  rw [if_neg (by omega), if_neg (by omega), if_pos h]
theorem W0_begin {L : LN} {c : CW} (hW : LWf L) : W0 L 0 (begC L c) (r0 L) := by
  have e0 : (0 : Int32).toInt = 0 := rfl
  have em : (-1 : Int32).toInt = -1 := rfl
  have z : ∀ j, ¬ j = 29 → ¬ j = 27 → ¬ (153 ≤ j ∧ j < 281) → r0 L j = 0 := fun j a b c => r0_0 a b c
  have h27 : r0 L 27 = L.1 5 := rfl
  refine ⟨Int.le_refl _, by decide, 0, ⟨⟨begC_sc, rfl, rfl, ?_, ?_, fun k hk => ?_, ⟨?_, fun k hk => Or.inl ⟨r0_s (by omega), r0_s (by omega)⟩⟩, fun h => absurd (z 8 (by decide) (by decide) (by decide)) h, fun k hk => ⟨?_, fun h => absurd (r0_s (by omega)) h⟩, fun k hk h => ?_, fun k hk h => ?_, fun h => absurd (z 8 (by decide) (by decide) (by decide)) h, Or.inl rfl⟩, rfl, by decide, fun k hk => absurd hk (Nat.not_lt_zero _), fun k hk => absurd hk (Nat.not_lt_zero _), ?_, rfl, Or.inl rfl⟩, ?_, ?_, fun h => ?_⟩
  · unfold gF
    rw [h27, z 1 (by decide) (by decide) (by decide), z 22 (by decide) (by decide) (by decide), z 2 (by decide) (by decide) (by decide), e0]
    have := hW.2.2.2.2.1
    omega
  · unfold gN
    rw [z 6 (by decide) (by decide) (by decide), z 7 (by decide) (by decide) (by decide), z 8 (by decide) (by decide) (by decide), z 9 (by decide) (by decide) (by decide), z 11 (by decide) (by decide) (by decide), z 12 (by decide) (by decide) (by decide), z 14 (by decide) (by decide) (by decide), z 15 (by decide) (by decide) (by decide), z 23 (by decide) (by decide) (by decide), z 30 (by decide) (by decide) (by decide), z 32 (by decide) (by decide) (by decide), e0]
    refine ⟨by omega, by omega, by omega, by omega, by omega, Or.inl rfl, by omega, by omega, by omega, by omega, by omega, by omega, by omega, by omega, by omega, by omega, by omega, by omega, by omega, by omega⟩
  · rw [z (281 + k) (by omega) (by omega) (by omega), z (409 + k) (by omega) (by omega) (by omega), z (537 + k) (by omega) (by omega) (by omega), e0]
    exact ⟨⟨by omega, by omega⟩, ⟨by omega, by omega⟩, Or.inl rfl⟩
  · rw [z 16 (by decide) (by decide) (by decide), z 2 (by decide) (by decide) (by decide), e0]
    omega
  · rw [begC_7 hk, r0_s (by omega)]
  · rw [z 6 (by decide) (by decide) (by decide), e0] at h
    omega
  · rw [z 32 (by decide) (by decide) (by decide), e0] at h
    omega
  · unfold gQD
    rw [z 4 (by decide) (by decide) (by decide), z 5 (by decide) (by decide) (by decide), z 2 (by decide) (by decide) (by decide), e0]
    omega
  · rw [z 0 (by decide) (by decide) (by decide), e0]
  · rw [z 22 (by decide) (by decide) (by decide), e0]
    omega
  · rw [z 8 (by decide) (by decide) (by decide)] at h
    exact absurd h (by decide)
/-! the model takes over what is given -/
def hvR (N : Mem) (r n : Nat) : Mem := (fun b k => if b = r ∧ k < n then N.1 r (n + k) else N.1 b k, N.2)
theorem hv_in {N : Mem} {r n k : Nat} (h : k < n) : (hvR N r n).1 r k = N.1 r (n + k) := if_pos ⟨rfl, h⟩
theorem hv_out {N : Mem} {r n b k : Nat} (h : ¬ (b = r ∧ k < n)) : (hvR N r n).1 b k = N.1 b k := if_neg h
theorem half_loop {N : Mem} {r n : Nat} (hn : n < 50000) : ∀ (m k fu : Nat), k + m = n → m < fu → lop2 fu (l_X11_takeHalf_2 r (2 * n)) (Int32.ofNat k) ((fun b j => if b = r ∧ j < k then N.1 r (n + j) else N.1 b j, N.2) : Mem) = some ((), hvR N r n) := by
  have h2 : Int32.ofNat (2 * n) / 2 = Int32.ofNat n := Int32.toInt_inj.mp (by
    have e2 : (2 : Int32).toInt = 2 := rfl
    rw [ti_div (by rw [ti_nat (by omega)]; omega) (by rw [e2]; omega), ti_nat (by omega), ti_nat (by omega), e2]
    omega)
  intro m
  induction m with
  | zero =>
    intro k fu hk hf
    obtain ⟨fu, rfl⟩ : ∃ q, fu = q + 1 := ⟨fu - 1, by omega⟩
    obtain rfl : k = n := by omega
    refine lop2_inr (Wp.eq ?_)
    unfold l_X11_takeHalf_2
    rw [h2]
    exact Wp.ps ((i_le (by omega) (by omega)).mpr (Nat.le_refl _)) (Wp.ret rfl)
  | succ m ih =>
    intro k fu hk hf
    obtain ⟨fu, rfl⟩ : ∃ q, fu = q + 1 := ⟨fu - 1, by omega⟩
    have b1 : l_X11_takeHalf_2 r (2 * n) (Int32.ofNat k) ((fun b j => if b = r ∧ j < k then N.1 r (n + j) else N.1 b j, N.2) : Mem) = some (.inl (Int32.ofNat (k + 1), ((fun b j => if b = r ∧ j < k + 1 then N.1 r (n + j) else N.1 b j, N.2) : Mem))) := by
      refine Wp.eq ?_
      unfold l_X11_takeHalf_2
      rw [h2, i_ad]
      refine Wp.ng (i64_lt (by omega) (by omega)) (Wp.gi (i_rng (by omega) (by omega)) (Wp.gi (i_rng (by omega) (by omega)) (Wp.nam ?_)))
      rw [i_nn (by omega), i_nn (by omega), i_ad1]
      refine Wp.nam (Wp.ret ?_)
      refine congrArg (fun q => Sum.inl (Int32.ofNat (k + 1), q)) (Mem.ext' (fun b j => ?_) rfl)
      simp only [wi]
      rw [if_neg (show ¬ (True ∧ n + k < k) by omega)]
      by_cases e : b = r ∧ j = k
      · rw [if_pos e, if_pos ⟨e.1, by omega⟩, e.2]
      · rw [if_neg e]
        by_cases e2 : b = r ∧ j < k
        · rw [if_pos e2, if_pos ⟨e2.1, by omega⟩]
        · rw [if_neg e2, if_neg (by omega)]
    exact (lop2_inl b1).trans (ih (k + 1) fu (by omega) (by omega))
theorem e_half {N : Mem} {r n : Nat} (hn : n < 50000) : f_X11_takeHalf r (2 * n) N = some ((), hvR N r n) := by
  have h := half_loop (N := N) (r := r) hn n 0 FU (by omega) (by unfold FU; omega)
  have e : ((fun b j => if b = r ∧ j < 0 then N.1 r (n + j) else N.1 b j, N.2) : Mem) = N := by
    refine Mem.ext' (fun b j => ?_) rfl
    show (if b = r ∧ j < 0 then N.1 r (n + j) else N.1 b j) = N.1 b j
    rw [if_neg (by omega)]
  rw [e] at h
  exact h
theorem forget_loop {t : Nat} {N : Mem} : ∀ (m k fu : Nat), k + m = 2048 → m < fu → lop2 fu (l_X11_forgetGiven_2 t) (Int32.ofNat k) ((fun b j => if b = t + 14 ∧ j < k then 0 else N.1 b j, N.2) : Mem) = some ((), ((fun b j => if b = t + 14 ∧ j < 2048 then 0 else N.1 b j, N.2) : Mem)) := by
  intro m
  induction m with
  | zero =>
    intro k fu hk hf
    obtain ⟨fu, rfl⟩ : ∃ q, fu = q + 1 := ⟨fu - 1, by omega⟩
    obtain rfl : k = 2048 := by omega
    refine lop2_inr (Wp.eq ?_)
    unfold l_X11_forgetGiven_2
    exact Wp.ps (by decide) (Wp.ret rfl)
  | succ m ih =>
    intro k fu hk hf
    obtain ⟨fu, rfl⟩ : ∃ q, fu = q + 1 := ⟨fu - 1, by omega⟩
    have b1 : l_X11_forgetGiven_2 t (Int32.ofNat k) ((fun b j => if b = t + 14 ∧ j < k then 0 else N.1 b j, N.2) : Mem) = some (.inl (Int32.ofNat (k + 1), ((fun b j => if b = t + 14 ∧ j < k + 1 then 0 else N.1 b j, N.2) : Mem))) := by
      refine Wp.eq ?_
      unfold l_X11_forgetGiven_2
      refine Wp.ng (fun g => by have := (i_le (a := 2048) (b := k) (by omega) (by omega)).mp g; omega) (Wp.gi (i_rng (by omega) (by decide)) (Wp.nam ?_))
      rw [i_nn (by omega), i_ad1]
      refine Wp.nam (Wp.ret ?_)
      refine congrArg (fun q => Sum.inl (Int32.ofNat (k + 1), q)) (Mem.ext' (fun b j => ?_) rfl)
      simp only [wi]
      by_cases e : b = t + 14 ∧ j = k
      · rw [if_pos e, if_pos ⟨e.1, by omega⟩]
      · rw [if_neg e]
        by_cases e2 : b = t + 14 ∧ j < k
        · rw [if_pos e2, if_pos ⟨e2.1, by omega⟩]
        · rw [if_neg e2, if_neg (by omega)]
    exact (lop2_inl b1).trans (ih (k + 1) fu (by omega) (by omega))
theorem slots_loop {t : Nat} : ∀ (m k fu : Nat) (N : Mem), k + m = 64 → m < fu → ∃ N', lop2 fu (l_X11_emptySlots_2 t) (Int32.ofNat k) N = some ((), N') ∧ (∀ j, k ≤ j → j < 64 → N'.1 (t + 8) (153 + j) = -1 ∧ N'.1 (t + 8) (217 + j) = -1) ∧ (∀ b q, ¬ (b = t + 8 ∧ ((153 + k ≤ q ∧ q < 217) ∨ (217 + k ≤ q ∧ q < 281))) → N'.1 b q = N.1 b q) ∧ N'.2 = N.2 := by
  intro m
  induction m with
  | zero =>
    intro k fu N hk hf
    obtain ⟨fu, rfl⟩ : ∃ q, fu = q + 1 := ⟨fu - 1, by omega⟩
    obtain rfl : k = 64 := by omega
    refine ⟨N, lop2_inr (Wp.eq ?_), fun j a b => by omega, fun _ _ _ => rfl, rfl⟩
    unfold l_X11_emptySlots_2
    exact Wp.ps (by decide) (Wp.ret rfl)
  | succ m ih =>
    intro k fu N hk hf
    obtain ⟨fu, rfl⟩ : ∃ q, fu = q + 1 := ⟨fu - 1, by omega⟩
    have b1 : l_X11_emptySlots_2 t (Int32.ofNat k) N = some (.inl (Int32.ofNat (k + 1), wi (wi N (t + 8) (153 + k) (-1)) (t + 8) (217 + k) (-1))) := by
      refine Wp.eq ?_
      unfold l_X11_emptySlots_2
      rw [i153, i217]
      refine Wp.ng (fun g => by have := (i_le (a := 64) (b := k) (by omega) (by omega)).mp g; omega) (Wp.gi (i_rng (by omega) (by decide)) (Wp.nam (Wp.gi (i_rng (by omega) (by decide)) ?_)))
      rw [i_nn (by omega), i_nn (by omega), i_ad1]
      exact Wp.nam (Wp.nam (Wp.ret rfl))
    obtain ⟨N', r1, r2, r3, r4⟩ := ih (k + 1) fu (wi (wi N (t + 8) (153 + k) (-1)) (t + 8) (217 + k) (-1)) (by omega) (by omega)
    refine ⟨N', (lop2_inl b1).trans r1, fun j a b => ?_, fun b q hb => ?_, r4⟩
    · by_cases e : j = k
      · subst e
        rw [r3 _ _ (by omega), r3 _ _ (by omega), wi_sl (by omega), wi_hit, wi_hit]
        exact ⟨rfl, rfl⟩
      · exact r2 j (by omega) b
    · rw [r3 _ _ (by omega)]
      simp only [wi]
      rw [if_neg (by omega), if_neg (by omega)]
theorem zero_loop {t : Nat} : ∀ (m k fu : Nat) (N : Mem), k + m = 665 → m < fu → ∃ N', lop2 fu (l_X11_takeOver_54 t) (Int32.ofNat k) N = some ((), N') ∧ ((N'.1 (t + 8) 29 = N.1 (t + 3) 1 ∧ N'.1 (t + 8) 27 = N.1 (t + 3) 5 ∧ ∀ j, 153 ≤ j → j < 281 → N'.1 (t + 8) j = -1) ∧ (∀ j, k ≤ j → j < 665 → ¬ (j = 29 ∨ j = 27 ∨ (153 ≤ j ∧ j < 281)) → N'.1 (t + 8) j = 0)) ∧ N'.1 t 31 = 0 ∧ N'.1 t 32 = 0 ∧ N'.1 t 44 = 0 ∧ (∀ b q, ¬ (b = t + 8 ∧ q < 665) → ¬ (b = t ∧ (q = 31 ∨ q = 32 ∨ q = 44)) → N'.1 b q = N.1 b q) ∧ N'.2 = N.2 ∧ (∀ j, j < k → ¬ (j = 29 ∨ j = 27 ∨ (153 ≤ j ∧ j < 281)) → N'.1 (t + 8) j = N.1 (t + 8) j) := by
  intro m
  induction m with
  | zero =>
    intro k fu N hk hf
    obtain ⟨fu, rfl⟩ : ∃ q, fu = q + 1 := ⟨fu - 1, by omega⟩
    obtain rfl : k = 665 := by omega
    obtain ⟨N1, s1, s2, s3, s4⟩ := slots_loop (t := t) 64 0 FU N (by omega) (by unfold FU; omega)
    have hes : f_X11_emptySlots t N = some ((), N1) := s1
    refine ⟨wi (wi (wi (wi (wi N1 (t + 8) 29 (N1.1 (t + 3) 1)) (t + 8) 27 ((wi N1 (t + 8) 29 (N1.1 (t + 3) 1)).1 (t + 3) 5)) t 31 0) t 32 0) t 44 0, lop2_inr (Wp.eq ?_), ⟨⟨?_, ?_, fun j a b => ?_⟩, fun j a b => by omega⟩, by rw [wi_sl (by decide), wi_sl (by decide), wi_hit], by rw [wi_sl (by decide), wi_hit], wi_hit, fun b q h1 h2 => ?_, s4, fun j hj h => ?_⟩
    · unfold l_X11_takeOver_54
      exact Wp.ps (by decide) (Wp.cl hes (Wp.nam (Wp.nam (Wp.nam (Wp.nam (Wp.nam (Wp.ret rfl)))))))
    · rw [wi_rwo (by omega), wi_rwo (by omega), wi_rwo (by omega), wi_sl (by decide), wi_hit, s3 _ _ (by omega)]
    · rw [wi_rwo (by omega), wi_rwo (by omega), wi_rwo (by omega), wi_hit, wi_rwo (by omega), s3 _ _ (by omega)]
    · rw [wi_rwo (by omega), wi_rwo (by omega), wi_rwo (by omega), wi_sl (by omega), wi_sl (by omega)]
      by_cases e : j < 217
      · obtain ⟨i, rfl⟩ : ∃ i, j = 153 + i := ⟨j - 153, by omega⟩
        exact (s2 i (Nat.zero_le _) (by omega)).1
      · obtain ⟨i, rfl⟩ : ∃ i, j = 217 + i := ⟨j - 217, by omega⟩
        exact (s2 i (Nat.zero_le _) (by omega)).2
    · have : (wi (wi (wi (wi (wi N1 (t + 8) 29 (N1.1 (t + 3) 1)) (t + 8) 27 ((wi N1 (t + 8) 29 (N1.1 (t + 3) 1)).1 (t + 3) 5)) t 31 0) t 32 0) t 44 0).1 b q = N1.1 b q := by
        simp only [wi]
        rw [if_neg (by omega), if_neg (by omega), if_neg (by omega), if_neg (by omega), if_neg (by omega)]
      rw [this, s3 _ _ (by omega)]
    · rw [wi_rwo (by omega), wi_rwo (by omega), wi_rwo (by omega), wi_sl (by omega), wi_sl (by omega), s3 _ _ (by omega)]
  | succ m ih =>
    intro k fu N hk hf
    obtain ⟨fu, rfl⟩ : ∃ q, fu = q + 1 := ⟨fu - 1, by omega⟩
    have b1 : l_X11_takeOver_54 t (Int32.ofNat k) N = some (.inl (Int32.ofNat (k + 1), wi N (t + 8) k 0)) := by
      refine Wp.eq ?_
      unfold l_X11_takeOver_54
      refine Wp.ng (fun g => by have := (i_le (a := 665) (b := k) (by omega) (by omega)).mp g; omega) (Wp.gi (i_rng (by omega) (by decide)) (Wp.nam ?_))
      rw [i_nn (by omega), i_ad1]
      exact Wp.nam (Wp.ret rfl)
    obtain ⟨N', r1, ⟨⟨p1, p2, p3⟩, r2⟩, r3, r4, r5, r6, r7, r8⟩ := ih (k + 1) fu (wi N (t + 8) k 0) (by omega) (by omega)
    rw [wi_rwo (by omega)] at p1 p2
    refine ⟨N', (lop2_inl b1).trans r1, ⟨⟨p1, p2, p3⟩, fun j a b h => ?_⟩, r3, r4, r5, fun b q h1 h2 => ?_, r7, fun j hj h => ?_⟩
    · by_cases e : j = k
      · subst e
        rw [r8 j (by omega) h, wi_hit]
      · exact r2 j (by omega) b h
    · rw [r6 _ _ h1 h2]
      simp only [wi]
      rw [if_neg (by omega)]
    · rw [r8 j (by omega) h, wi_sl (by omega)]
/-- the model takes over a given line -/
theorem take_over {x : Nat} {L : LN} {N : Mem} (h8 : ∀ k, k < 8 → N.1 (x + 95 + 3) (10 + k) = L.1 k) (hw : ∀ k : Nat, k < 16 ∧ (k = 0 ∨ (k : Int) < (L.1 7).toInt) → N.1 (x + 95 + 4) (16 + k) = L.2.1 k) (hr0 : RuG N (x + 95) 0 L.2.2.1) (hr1 : RuG N (x + 95) 1 L.2.2.2) (l0 : L.2.2.1.length ≤ 700) (l1 : L.2.2.2.length ≤ 700) : ∃ N', f_X11_takeOver (x + 95) N = some ((), N') ∧ EnvM (x + 95) N' L ∧ N'.1 (x + 95) 24 = L.1 2 ∧ N'.1 (x + 95) 25 = L.1 3 ∧ N'.1 (x + 95) 31 = 0 ∧ N'.1 (x + 95) 32 = 0 ∧ N'.1 (x + 95) 44 = 0 ∧ (∀ j, j < 665 → N'.1 (x + 95 + 8) j = r0 L j) ∧ (∀ b q, ¬ (x + 95 + 3 ≤ b ∧ b ≤ x + 95 + 6) → ¬ b = x + 95 + 8 → ¬ b = x + 95 + 14 → ¬ (b = x + 95 ∧ (q = 24 ∨ q = 25 ∨ q = 31 ∨ q = 32 ∨ q = 44)) → N'.1 b q = N.1 b q) ∧ N'.2 = N.2 := by
  have h20 : f_X11_takeHalf (x + 95 + 3) 20 N = some ((), hvR N (x + 95 + 3) 10) := e_half (n := 10) (by decide)
  generalize hN1 : hvR N (x + 95 + 3) 10 = N1 at h20
  have h32 : f_X11_takeHalf (x + 95 + 4) 32 N1 = some ((), hvR N1 (x + 95 + 4) 16) := e_half (n := 16) (by decide)
  generalize hN2 : hvR N1 (x + 95 + 4) 16 = N2 at h32
  have h14 : f_X11_takeHalf (x + 95 + 5) 1400 N2 = some ((), hvR N2 (x + 95 + 5) 700) := e_half (n := 700) (by decide)
  generalize hN3 : hvR N2 (x + 95 + 5) 700 = N3 at h14
  have h15 : f_X11_takeHalf (x + 95 + 6) 1400 N3 = some ((), hvR N3 (x + 95 + 6) 700) := e_half (n := 700) (by decide)
  generalize hN4 : hvR N3 (x + 95 + 6) 700 = N4 at h15
  have o1 : ∀ b k, ¬ (b = x + 95 + 3 ∧ k < 10) → N1.1 b k = N.1 b k := fun b k h => by rw [← hN1]; exact hv_out h
  have o2 : ∀ b k, ¬ (b = x + 95 + 4 ∧ k < 16) → N2.1 b k = N1.1 b k := fun b k h => by rw [← hN2]; exact hv_out h
  have o3 : ∀ b k, ¬ (b = x + 95 + 5 ∧ k < 700) → N3.1 b k = N2.1 b k := fun b k h => by rw [← hN3]; exact hv_out h
  have o4 : ∀ b k, ¬ (b = x + 95 + 6 ∧ k < 700) → N4.1 b k = N3.1 b k := fun b k h => by rw [← hN4]; exact hv_out h
  have i1 : ∀ k, k < 10 → N1.1 (x + 95 + 3) k = N.1 (x + 95 + 3) (10 + k) := fun k h => by rw [← hN1]; exact hv_in h
  have i2 : ∀ k, k < 16 → N2.1 (x + 95 + 4) k = N1.1 (x + 95 + 4) (16 + k) := fun k h => by rw [← hN2]; exact hv_in h
  have i3 : ∀ k, k < 700 → N3.1 (x + 95 + 5) k = N2.1 (x + 95 + 5) (700 + k) := fun k h => by rw [← hN3]; exact hv_in h
  have i4 : ∀ k, k < 700 → N4.1 (x + 95 + 6) k = N3.1 (x + 95 + 6) (700 + k) := fun k h => by rw [← hN4]; exact hv_in h
  have z2 : N4.2 = N.2 := by rw [← hN4, ← hN3, ← hN2, ← hN1]; rfl
  clear hN1 hN2 hN3 hN4
  have a3 : ∀ k, k < 10 → N4.1 (x + 95 + 3) k = N.1 (x + 95 + 3) (10 + k) := fun k h => by rw [o4 _ _ (by omega), o3 _ _ (by omega), o2 _ _ (by omega), i1 k h]
  generalize hN6 : wi (wi N4 (x + 95) 24 (L.1 2)) (x + 95) 25 (L.1 3) = N6
  have o6 : ∀ b k, ¬ (b = x + 95 ∧ (k = 24 ∨ k = 25)) → N6.1 b k = N4.1 b k := fun b k h => by
    rw [← hN6]
    simp only [wi]
    rw [if_neg (by omega), if_neg (by omega)]
  have hfg := forget_loop (t := x + 95) (N := N6) 2048 0 FU (by omega) (by unfold FU; omega)
  have e0 : ((fun b j => if b = x + 95 + 14 ∧ j < 0 then 0 else N6.1 b j, N6.2) : Mem) = N6 := by
    refine Mem.ext' (fun b j => ?_) rfl
    show (if b = x + 95 + 14 ∧ j < 0 then 0 else N6.1 b j) = N6.1 b j
    rw [if_neg (by omega)]
  rw [e0] at hfg
  generalize hN7 : ((fun b j => if b = x + 95 + 14 ∧ j < 2048 then 0 else N6.1 b j, N6.2) : Mem) = N7 at hfg
  have o7 : ∀ b k, ¬ b = x + 95 + 14 → N7.1 b k = N6.1 b k := fun b k h => by
    rw [← hN7]
    exact if_neg (fun q => h q.1)
  have i7 : ∀ k, k < 2048 → N7.1 (x + 95 + 14) k = 0 := fun k h => by
    rw [← hN7]
    exact if_pos ⟨rfl, h⟩
  have z7 : N7.2 = N.2 := by rw [← hN7, ← z2, ← hN6]; rfl
  obtain ⟨N8, s1, ⟨⟨p1, p2, p3⟩, p4⟩, p5, p6, p7, p8, p9, _⟩ := zero_loop (t := x + 95) 665 0 FU N7 (by omega) (by unfold FU; omega)
  have v24 : N6.1 (x + 95) 24 = L.1 2 := by rw [← hN6, wi_sl (by decide), wi_hit]
  have v25 : N6.1 (x + 95) 25 = L.1 3 := by rw [← hN6, wi_hit]
  have row3 : ∀ k, k < 10 → N8.1 (x + 95 + 3) k = N.1 (x + 95 + 3) (10 + k) := fun k h => by rw [p8 _ _ (by omega) (by omega), o7 _ _ (by omega), o6 _ _ (by omega), a3 k h]
  refine ⟨N8, Wp.eq ?_, ⟨fun k hk => ?_, fun k hk => ?_, ⟨?_, l0, fun j hj => ?_⟩, ⟨?_, l1, fun j hj => ?_⟩, fun k hk h => ?_⟩, ?_, ?_, p5, p6, p7, fun j hj => ?_, fun b q h1 h2 h3 h4 => ?_, p9.trans z7⟩
  · unfold f_X11_takeOver
    refine Wp.cl h20 (Wp.cl h32 (Wp.cl h14 (Wp.cl h15 ?_)))
    rw [a3 2 (by decide), h8 2 (by decide)]
    have e3 : (wi N4 (x + 95) 24 (L.1 2)).1 (x + 95 + 3) 3 = L.1 3 := by rw [wi_rwo (by omega), a3 3 (by decide)]; exact h8 3 (by decide)
    refine Wp.nam ?_
    rw [e3, hN6]
    have hf : f_X11_forgetGiven (x + 95) N6 = some ((), N7) := hfg
    exact Wp.nam (Wp.cl hf ⟨_, s1, rfl⟩)
  · rw [row3 k (by omega)]; exact h8 k hk
  · rw [p8 _ _ (by omega) (by omega), o7 _ _ (by omega), o6 _ _ (by omega), o4 _ _ (by omega), o3 _ _ (by omega), i2 k hk.1, o1 _ _ (by omega)]; exact hw k hk
  · rw [row3 8 (by decide)]; exact hr0.1
  · rw [p8 _ _ (by omega) (by omega), o7 _ _ (by omega), o6 _ _ (by omega), o4 _ _ (by omega), i3 j (by omega), o2 _ _ (by omega), o1 _ _ (by omega)]; exact hr0.2 j hj
  · rw [row3 9 (by decide)]; exact hr1.1
  · rw [p8 _ _ (by omega) (by omega), o7 _ _ (by omega), o6 _ _ (by omega), i4 j (by omega), o3 _ _ (by omega), o2 _ _ (by omega), o1 _ _ (by omega)]; exact hr1.2 j hj
  · rw [p8 _ _ (by omega) (by omega), i7 k hk] at h
    exact absurd rfl h
  · rw [p8 _ _ (by omega) (by omega), o7 _ _ (by omega)]; exact v24
  · rw [p8 _ _ (by omega) (by omega), o7 _ _ (by omega)]; exact v25
  · have r3 : ∀ k, k < 10 → N7.1 (x + 95 + 3) k = N.1 (x + 95 + 3) (10 + k) := fun k h => by rw [o7 _ _ (by omega), o6 _ _ (by omega), a3 k h]
    unfold r0
    by_cases e1 : j = 29
    · rw [if_pos e1, e1, p1, r3 1 (by decide)]; exact h8 1 (by decide)
    · rw [if_neg e1]
      by_cases e2 : j = 27
      · rw [if_pos e2, e2, p2, r3 5 (by decide)]; exact h8 5 (by decide)
      · rw [if_neg e2]
        by_cases e3 : 153 ≤ j ∧ j < 281
        · rw [if_pos e3]; exact p3 j e3.1 e3.2
        · rw [if_neg e3]; exact p4 j (Nat.zero_le _) hj (by omega)
  · rw [p8 _ _ (by omega) (by omega), o7 _ _ h3, o6 _ _ (by omega), o4 _ _ (by omega), o3 _ _ (by omega), o2 _ _ (by omega), o1 _ _ (by omega)]
