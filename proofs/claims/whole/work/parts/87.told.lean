/-! line, of both -/
theorem EnvM.cg2 {t : Nat} {N N' : Mem} {L : LN} (h : EnvM t N L) (e : ∀ b k, (b = t + 3 ∧ k < 10) ∨ (b = t + 4 ∧ k < 16) ∨ ((b = t + 5 ∨ b = t + 6) ∧ k < 700) → N'.1 b k = N.1 b k) (hc : CVm t N' L.2.2.1 L.2.2.2) : EnvM t N' L := by
  obtain ⟨h1, h2, ⟨a1, a2, a3⟩, ⟨b1, b2, b3⟩, h5⟩ := h
  refine ⟨fun k hk => ?_, fun k hk => ?_, ⟨?_, a2, fun j hj => ?_⟩, ⟨?_, b2, fun j hj => ?_⟩, hc⟩
  · rw [e _ _ (by omega)]; exact h1 k hk
  · rw [e _ _ (by omega)]; exact h2 k hk
  · rw [e _ _ (by omega)]; exact a1
  · rw [e _ _ (by omega)]; exact a3 j hj
  · rw [e _ _ (by omega)]; exact b1
  · rw [e _ _ (by omega)]; exact b3 j hj
/-- what is read, but not told, leaves all else as it was -/
theorem Inv2.rd {x sp : Nat} {L : LN} {M N M' N' : Mem} (h : Inv2 x L M N) (hsp : M.2.2 1 = sp) (hM : ∀ b k, ¬ b = x + 1 → ¬ (sp ≤ b ∧ b < sp + 8) → M'.1 b k = M.1 b k) (hM0 : M'.2.2 0 = M.2.2 0) (hM1 : M'.2.2 1 = M.2.2 1) (hN : ∀ b k, ¬ (b = x + 95 ∧ (k = 10 ∨ (12 ≤ k ∧ k ≤ 21))) → ¬ (b = x + 95 + 3 ∧ 10 ≤ k) → ¬ (b = x + 95 + 4 ∧ 16 ≤ k) → ¬ ((b = x + 95 + 5 ∨ b = x + 95 + 6) ∧ 700 ≤ k) → N'.1 b k = N.1 b k) (h1 : M'.1 (x + 1) 1 = 0) (h12 : N'.1 (x + 95) 12 = 0) (h7 : M'.1 (x + 1) 7 = N'.1 (x + 95) 21) : Inv2 x L M' N' := by
  obtain ⟨a1, a2, a3, a4, a5, a6, a7, _, _, ⟨n, nn, c1, c2, c3⟩, ⟨d1, d2, d3⟩, a12⟩ := h
  have gM : ∀ b k, ¬ b = x + 1 → ¬ (sp ≤ b ∧ b < sp + 8) → M'.1 b k = M.1 b k := hM
  refine ⟨a1, by rw [hM0, hM1]; exact a2, by rw [hM0]; exact a3.cg (fun b k hb => gM b k (by omega) (by omega)), a4.cg2 (fun b k hb => hN b k (by omega) (by omega) (by omega) (by omega)) (a4.2.2.2.2.cg (funext fun _ => hN _ _ (by omega) (by omega) (by omega) (by omega)) (funext fun _ => hN _ _ (by omega) (by omega) (by omega) (by omega)) (funext fun _ => hN _ _ (by omega) (by omega) (by omega) (by omega))), by rw [hN _ _ (by omega) (by omega) (by omega) (by omega)]; exact a5, by rw [hN _ _ (by omega) (by omega) (by omega) (by omega)]; exact a6, by rw [hN _ _ (by omega) (by omega) (by omega) (by omega)]; exact a7, ⟨0, by omega, h1, h12, fun j hj => absurd hj (Nat.not_lt_zero _)⟩, h7, ⟨n, nn, by rw [hN _ _ (by omega) (by omega) (by omega) (by omega)]; exact c1, by rw [hN _ _ (by omega) (by omega) (by omega) (by omega)]; exact c2, c3.cg (fun b k q1 q2 => gM b k (by omega) (by omega)) (fun j hj => hN _ _ (by omega) (by omega) (by omega) (by omega)) (fun j hj => hN _ _ (by omega) (by omega) (by omega) (by omega)) (fun j hj => hN _ _ (by omega) (by omega) (by omega) (by omega)) (fun j hj => hN _ _ (by omega) (by omega) (by omega) (by omega)) (fun j hj => hN _ _ (by omega) (by omega) (by omega) (by omega))⟩, ⟨by rw [gM _ _ (by omega) (by omega), hN _ _ (by omega) (by omega) (by omega) (by omega)]; exact d1, by rw [gM _ _ (by omega) (by omega)]; exact d2, fun h4 => ?_⟩, by rw [hN _ _ (by omega) (by omega) (by omega) (by omega)]; exact a12⟩
  rw [gM _ _ (by omega) (by omega)] at h4
  obtain ⟨n, nn, e1, e2, e3⟩ := d3 h4
  exact ⟨n, nn, by rw [hN _ _ (by omega) (by omega) (by omega) (by omega)]; exact e1, by rw [hN _ _ (by omega) (by omega) (by omega) (by omega)]; exact e2, e3.cg (fun b k q1 q2 => gM b k (by omega) (by omega)) (fun j hj => hN _ _ (by omega) (by omega) (by omega) (by omega)) (fun j hj => hN _ _ (by omega) (by omega) (by omega) (by omega)) (fun j hj => hN _ _ (by omega) (by omega) (by omega) (by omega)) (fun j hj => hN _ _ (by omega) (by omega) (by omega) (by omega)) (fun j hj => hN _ _ (by omega) (by omega) (by omega) (by omega))⟩
/-- what both know when the reading begins -/
theorem read_begin {x sp n k : Nat} {M N : Mem} (hs : sp = x + 3 ∨ sp = x + 11) (hsp : M.2.2 1 = sp) (hn : n ≤ k) (hk : k ≤ 700) (htp : ∀ j, j < k → M.1 (x + 2) j = N.1 (x + 95 + 9) j ∧ 0 ≤ (M.1 (x + 2) j).toInt ∧ (M.1 (x + 2) j).toInt ≤ 255) : ∃ M1 N1 st pos kd, (∀ v M', lop2 FU (l_X6_read_43 (x + 1)) (0 : Int32) M1 = some (v, M') → f_X6_read (x + 1) (Int32.ofNat n) M = some (v, M')) ∧ (∀ Q, Wp (lop2 FU (l_X11_line_57 (x + 95)) (0 : Int32) N1) Q → Wp (nm (wi N (x + 95) 12 (0 : Int32)) (fun M5 => nm (wi M5 (x + 95) 14 (Int32.ofNat n)) (fun M6 => nm (wi M6 (x + 95) 13 (0 : Int32)) (fun M7 => nm (wi M7 (x + 95) 19 (0 : Int32)) (fun M8 => nm (wi M8 (x + 95) 21 (-1 : Int32)) (fun M9 => bd (f_X11_beginTold (x + 95) M9) (fun _ M11 => bd (f_X11_stepOn (x + 95) M11) (fun _ M13 => lop2 FU (l_X11_line_57 (x + 95)) (0 : Int32) M13)))))))) Q) ∧ LV x (N.1 (x + 95 + 9)) n st pos kd M1 N1 ∧ LG x sp L0 M1 N1 ∧ M1.1 (x + 1) 10 = Int32.ofNat 0 ∧ M1.1 (x + 1) 1 = 0 ∧ N1.1 (x + 95) 12 = 0 ∧ N1.1 (x + 95) 21 = -1 ∧ (∀ b k, ¬ b = x + 1 → ¬ (sp ≤ b ∧ b < sp + 8) → M1.1 b k = M.1 b k) ∧ M1.2 = M.2 ∧ (∀ b k, ¬ (b = x + 95 ∧ (12 ≤ k ∧ k ≤ 21)) → ¬ (b = x + 95 + 3 ∧ 10 ≤ k) → ¬ (b = x + 95 + 4 ∧ 16 ≤ k) → N1.1 b k = N.1 b k) ∧ N1.2 = N.2 := by
  generalize hM6 : wi (wi (wi (wi (wi (wi M (x + 1) 2 (Int32.ofNat n)) (x + 1) 1 0) (x + 1) 3 0) (x + 1) 6 0) (x + 1) 7 (-1)) (x + 1) 10 0 = M6
  have m2 : M6.1 (x + 1) 2 = Int32.ofNat n := by rw [← hM6]; simp [wi]
  have m1 : M6.1 (x + 1) 1 = 0 := by rw [← hM6]; simp [wi]
  have m3 : M6.1 (x + 1) 3 = 0 := by rw [← hM6]; simp [wi]
  have m6 : M6.1 (x + 1) 6 = 0 := by rw [← hM6]; simp [wi]
  have m7 : M6.1 (x + 1) 7 = -1 := by rw [← hM6]; simp [wi]
  have m10 : M6.1 (x + 1) 10 = 0 := by rw [← hM6]; simp [wi]
  have mo : ∀ b k, ¬ b = x + 1 → M6.1 b k = M.1 b k := fun b k h => by rw [← hM6, wi_rwo h, wi_rwo h, wi_rwo h, wi_rwo h, wi_rwo h, wi_rwo h]
  have mz : M6.2 = M.2 := by rw [← hM6]; rfl
  obtain ⟨M9, k1, k2, k3, k4, k5, k6, k7⟩ := clear_ok (sp := sp) (M := M6)
  have hC9 : CTp x (N.1 (x + 95 + 9)) n M9 := ⟨⟨by omega, by rw [k6 _ _ (by omega)]; exact m7⟩, by rw [k6 _ _ (by omega)]; exact m2, fun j hj => by rw [k6 _ _ (by omega), mo _ _ (by omega)]; exact (htp j (by omega)).1⟩
  obtain ⟨st, pos, kd, M1, r1, r2, r3, r4⟩ := e_adv (p := 0) hC9 (Nat.zero_le _) (by rw [k6 _ _ (by omega)]; exact m3) (by rw [k6 _ _ (by omega)]; exact m6)
  generalize hN9 : wi (wi (wi (wi (wi N (x + 95) 12 0) (x + 95) 14 (Int32.ofNat n)) (x + 95) 13 0) (x + 95) 19 0) (x + 95) 21 (-1) = N9
  have n12 : N9.1 (x + 95) 12 = 0 := by rw [← hN9]; simp [wi]
  have n14 : N9.1 (x + 95) 14 = Int32.ofNat n := by rw [← hN9]; simp [wi]
  have n13 : N9.1 (x + 95) 13 = 0 := by rw [← hN9]; simp [wi]
  have n19 : N9.1 (x + 95) 19 = 0 := by rw [← hN9]; simp [wi]
  have n21 : N9.1 (x + 95) 21 = -1 := by rw [← hN9]; simp [wi]
  have no : ∀ b k, ¬ (b = x + 95 ∧ (k = 12 ∨ k = 13 ∨ k = 14 ∨ k = 19 ∨ k = 21)) → N9.1 b k = N.1 b k := fun b k h => by
    rw [← hN9]
    simp only [wi]
    rw [if_neg (by omega), if_neg (by omega), if_neg (by omega), if_neg (by omega), if_neg (by omega)]
  have nz : N9.2 = N.2 := by rw [← hN9]; rfl
  obtain ⟨N11, t1, t2, t3, t4, t5, t6, t7⟩ := told_ok (t := x + 95) (N := N9)
  have hC11 : MTp (x + 95) (N.1 (x + 95 + 9)) n N11 := ⟨⟨by omega, fun j hj => by rw [← (htp j (by omega)).1]; exact (htp j (by omega)).2⟩, by rw [t6 _ _ (by omega) (by omega)]; exact n14, fun j hj => by rw [t6 _ _ (by omega) (by omega), no _ _ (by omega)]⟩
  obtain ⟨st', pos', kd', N1, s1, s2, s3, s4⟩ := e_stepOn (p := 0) hC11 (Nat.zero_le _) (by rw [t6 _ _ (by omega) (by omega)]; exact n13)
  obtain ⟨e1, e2, e3⟩ := r2.uq s2
  subst e1 e2 e3
  have cz : ∀ b k, ¬ b = x + 1 → ¬ (sp ≤ b ∧ b < sp + 8) → M1.1 b k = M.1 b k := fun b k h1 h2 => by rw [r4.1 _ _ (by omega), k6 _ _ h2, mo _ _ h1]
  refine ⟨M1, N1, st, pos, kd, fun v M' h => Wp.eq ?_, fun Q hQ => ?_, ⟨r3, s3, by rw [r4.1 _ _ (by omega), k6 _ _ (by omega)]; exact m6, by rw [s4.1 _ _ (by omega), t6 _ _ (by omega) (by omega)]; exact n19, 0, r2⟩, ⟨fun j hj => ⟨?_, ?_⟩, fun j hj => ?_, ⟨?_, by decide, fun j hj => absurd hj (Nat.not_lt_zero _)⟩, ⟨?_, by decide, fun j hj => absurd hj (Nat.not_lt_zero _)⟩, ⟨?_, fun j hj => absurd hj (Nat.not_lt_zero _)⟩, ⟨?_, fun j hj => absurd hj (Nat.not_lt_zero _)⟩⟩, ?_, ?_, ?_, ?_, cz, by rw [r4.2, k7]; exact mz, fun b k h1 h2 h3 => ?_, by rw [s4.2, t7]; exact nz⟩
  · unfold f_X6_read
    refine Wp.nam (Wp.nam (Wp.nam (Wp.nam (Wp.nam (Wp.nam ?_)))))
    rw [hM6]
    have h21 : M6.2.2 1 = sp := by rw [mz]; exact hsp
    refine Wp.gp (spgd hs h21) ?_
    rw [h21]
    exact Wp.cl k1 (Wp.cl r1 ⟨_, h, rfl⟩)
  · refine Wp.nam (Wp.nam (Wp.nam (Wp.nam (Wp.nam ?_))))
    rw [hN9]
    exact Wp.cl t1 (Wp.cl s1 hQ)
  · rw [r4.1 _ _ (by omega)]; exact k2 j hj
  · rw [s4.1 _ _ (by omega)]; exact t2 j hj
  · have hj0 : j = 0 := by
      have e7 : (L0.1 7).toInt = 1 := rfl
      rw [e7] at hj
      omega
    subst hj0
    rw [r4.1 _ _ (by omega), s4.1 _ _ (by omega)]
    exact ⟨k3, t5⟩
  · rw [r4.1 _ _ (by omega)]; exact k4
  · rw [r4.1 _ _ (by omega)]; exact k5
  · rw [s4.1 _ _ (by omega)]; exact t3
  · rw [s4.1 _ _ (by omega)]; exact t4
  · rw [r4.1 _ _ (by omega), k6 _ _ (by omega)]; exact m10
  · rw [r4.1 _ _ (by omega), k6 _ _ (by omega)]; exact m1
  · rw [s4.1 _ _ (by omega), t6 _ _ (by omega) (by omega)]; exact n12
  · rw [s4.1 _ _ (by omega), t6 _ _ (by omega) (by omega)]; exact n21
  · rw [s4.1 _ _ (by omega), t6 _ _ h2 h3, no _ _ (by omega)]
