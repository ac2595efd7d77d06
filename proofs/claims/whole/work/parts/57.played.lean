/-! played, spans -/
theorem oct {x : Nat} {z p i v : Int32} {A B C D : Int} {M N : Mem} (hC : Core z p i A B C D (getW M (x + 19 + 1)) (N.1 (x + 95 + 8))) (hB : (N.1 (x + 95 + 8) 6).toInt ≤ 100000000) (h0 : 0 ≤ v.toInt) (h1 : v.toInt < (imin (N.1 (x + 95 + 8) 6) 128).toInt) : ∃ k : Nat, k < 128 ∧ imod (N.1 (x + 95 + 8) 6 - 1 - v) 128 = Int32.ofNat k ∧ N.1 (x + 95 + 8) 6 - 1 - v - (N.1 (x + 95 + 8) 6 - 1 - v) / 128 * 128 = Int32.ofNat k ∧ f_X4_latest (x + 19 + 1 + 5 + 4) v M = some (N.1 (x + 95 + 8) (409 + k), M) ∧ f_X4_latestIsFilled (x + 19 + 1 + 5 + 4) v M = some (N.1 (x + 95 + 8) (537 + k), M) ∧ (N.1 (x + 95 + 8) (537 + k) = 0 ∨ N.1 (x + 95 + 8) (537 + k) = 1) := by
  have hN := hC.2.2.2.2.1
  have p6 : 0 ≤ (N.1 (x + 95 + 8) 6).toInt := by
    unfold gN at hN
    omega
  have e1 : (1 : Int32).toInt = 1 := rfl
  have e128 : (128 : Int32).toInt = 128 := rfl
  have hm := ti_min (a := N.1 (x + 95 + 8) 6) (b := 128)
  rw [e128] at hm
  have hk1 := (okept hC).1
  have hub : (imin (N.1 (x + 95 + 8) 6) 128).toInt ≤ 128 ∧ (imin (N.1 (x + 95 + 8) 6) 128).toInt ≤ (N.1 (x + 95 + 8) 6).toInt := by
    split at hm <;> omega
  have s1 : (N.1 (x + 95 + 8) 6 - 1).toInt = (N.1 (x + 95 + 8) 6).toInt - 1 := by rw [ti_sub (by rw [e1]; omega) (by rw [e1]; omega), e1]
  have s2 : (N.1 (x + 95 + 8) 6 - 1 - v).toInt = (N.1 (x + 95 + 8) 6).toInt - 1 - v.toInt := by rw [ti_sub (by rw [s1]; omega) (by rw [s1]; omega), s1]
  have hrem := imod_rem (a := N.1 (x + 95 + 8) 6 - 1 - v) (b := 128) (by rw [s2]; omega) (by decide)
  have htm := ti_mod (a := N.1 (x + 95 + 8) 6 - 1 - v) (b := 128) (by decide)
  rw [e128, s2] at htm
  obtain ⟨k, hk, hk2, hk3⟩ : ∃ k : Nat, imod (N.1 (x + 95 + 8) 6 - 1 - v) 128 = Int32.ofNat k ∧ k < 128 ∧ (k : Int) < (N.1 (x + 95 + 8) 6).toInt := ⟨(imod (N.1 (x + 95 + 8) 6 - 1 - v) 128).toInt.toNat, nat_of (by omega), by omega, by omega⟩
  have hA := hC.2.2.2.2.2.1 k hk2
  have hO : M.1 (x + 19 + 1 + 5 + 4 + 1) k = _ := hC.2.2.2.2.2.2.2.2.2.1 k hk2 hk3
  have g6 : M.1 (x + 19 + 1 + 5 + 4) 0 = N.1 (x + 95 + 8) 6 := hC.1.g6
  have hle : ¬ imin (N.1 (x + 95 + 8) 6) 128 ≤ v := nle_of (by omega)
  have e256 : (256 : Int32).toInt = 256 := rfl
  refine ⟨k, hk2, hk, by rw [← hrem, hk], Wp.eq ?_, Wp.eq ?_, hA.2.2⟩
  · unfold f_X4_latest
    refine Wp.cl hk1 (Wp.j2 (Wp.ng hle ?_))
    rw [g6]
    refine Wp.cl (e_mod _ _ _) ?_
    rw [hk]
    refine Wp.cl (at_nat hk2 (by decide)) (Wp.ret ?_)
    rw [hO, ← imod256]
    have : imod (if N.1 (x + 95 + 8) (537 + k) = 0 then N.1 (x + 95 + 8) (409 + k) else N.1 (x + 95 + 8) (409 + k) + 256) 256 = N.1 (x + 95 + 8) (409 + k) := Int32.toInt_inj.mp (by
      rw [ti_mod (by decide), e256]
      by_cases g : N.1 (x + 95 + 8) (537 + k) = 0
      · rw [if_pos g]
        omega
      · rw [if_neg g, ti_add (by rw [e256]; omega) (by rw [e256]; omega), e256]
        omega)
    rw [this]
  · unfold f_X4_latestIsFilled
    refine Wp.cl hk1 (Wp.j2 (Wp.j1 (Wp.ng hle ?_)))
    rw [g6]
    refine Wp.cl (e_mod _ _ _) ?_
    rw [hk]
    refine Wp.cl (at_nat hk2 (by decide)) ?_
    rw [hO]
    rcases hA.2.2 with g | g
    · rw [if_pos g]
      refine Wp.ps (lt_of (by rw [e256]; omega)) (Wp.gp (Or.inl rfl) (Wp.ret ?_))
      rw [g]
    · have g0 : ¬ N.1 (x + 95 + 8) (537 + k) = 0 := fun e => by rw [e] at g; exact absurd g (by decide)
      rw [if_neg g0]
      refine Wp.ng (nlt_of ?_) (Wp.gp (Or.inr rfl) (Wp.ret ?_))
      · rw [ti_add (by rw [e256]; omega) (by rw [e256]; omega), e256]
        omega
      · rw [g]
theorem call_played {x : Nat} {L : LN} {M N0 N : Mem} {v u : Int32} (h : Rdy x L M N0 N) : CallT x κ0 M N (f_X10_played x v u M) (f_X11_played (x + 95) v u N0) := by
  obtain ⟨hr, hI, hc0⟩ := h
  obtain ⟨T, hT, hC⟩ := hI.sc
  obtain ⟨k1, k2⟩ := okept hC
  have hT2 := hT.2.1
  have e0 : (0 : Int32).toInt = 0 := rfl
  have e1 : (1 : Int32).toInt = 1 := rfl
  have e128 : (128 : Int32).toInt = 128 := rfl
  have z0 : (0 : Int64).toInt = 0 := rfl
  have z1 : (1 : Int64).toInt = 1 := rfl
  have hN := hC.2.2.2.2.1
  have p6 : 0 ≤ (N.1 (x + 95 + 8) 6).toInt ∧ (N.1 (x + 95 + 8) 6).toInt ≤ 100000000 := by
    unfold gN at hN
    omega
  have hb := ti_min (a := N.1 (x + 95 + 8) 6) (b := 128)
  rw [e128] at hb
  have hs : (imin (N.1 (x + 95 + 8) 6) 128 - 1).toInt = (imin (N.1 (x + 95 + 8) 6) 128).toInt - 1 := by
    refine (ti_sub ?_ ?_).trans (by rw [e1]) <;> rw [e1] <;> split at hb <;> omega
  by_cases hv : 0 ≤ v.toInt ∧ v.toInt ≤ (imin (N.1 (x + 95 + 8) 6) 128).toInt - 1
  · by_cases hu : 0 ≤ u.toInt ∧ u.toInt ≤ 1
    · obtain ⟨k, q1, q2, q3, q4, q5, q6⟩ := oct (v := v) hC p6.2 hv.1 (by omega)
      obtain ⟨j, hj, rfl⟩ : ∃ j : Nat, j ≤ 1 ∧ u = Int32.ofNat j := ⟨u.toInt.toNat, by omega, nat_of hu.1⟩
      have hj' : j = 0 ∨ j = 1 := by omega
      rcases hj' with rfl | rfl
      · refine CallT.get (v := N.1 (x + 95 + 8) (409 + k)) hI hc0 (Wp.eq ?_) (Wp.eq ?_)
        · unfold f_X10_played
          exact Wp.j1 (Wp.ng (nlt_of (by rw [e0]; omega)) (Wp.cl k1 (Wp.ng (nle_of (by omega)) (Wp.ng (by decide) (Wp.ps (by decide) (Wp.ps rfl (Wp.cl q4 (Wp.ret rfl))))))))
        · unfold f_X11_played
          refine Wp.cl hr (Wp.cl k2 (Wp.cl (e_in1 (by rw [Int32.toInt_toInt64, hs, z0]; exact hv)) (Wp.j1 (Wp.ng (by decide) (Wp.cl (e_in1 (by rw [z0, z1]; exact hu)) (Wp.ng (by decide) (Wp.j1 (Wp.ps rfl ?_))))))))
          rw [q3]
          have e : (409 : Int32) + Int32.ofNat k = Int32.ofNat (409 + k) := i_ad' 409 k
          show Wp (gdi ((409 : Int32) + Int32.ofNat k) 665 (some (N.1 (x + 95 + 8) ((409 : Int32) + Int32.ofNat k).toNatClampNeg, N))) _
          rw [e]
          refine Wp.gi (i_rng (by omega) (by decide)) ?_
          rw [i_nn (by omega)]
          exact Wp.ret rfl
      · refine CallT.get (v := N.1 (x + 95 + 8) (537 + k)) hI hc0 (Wp.eq ?_) (Wp.eq ?_)
        · unfold f_X10_played
          refine Wp.j1 (Wp.ng (nlt_of (by rw [e0]; omega)) (Wp.cl k1 (Wp.ng (nle_of (by omega)) (Wp.ng (by decide) (Wp.ps (by decide) (Wp.ng (by decide) (Wp.cl q5 (Wp.j1 ?_))))))))
          rcases q6 with g | g
          · refine Wp.ps g (Wp.ret ?_)
            rw [g]
          · refine Wp.ng (by rw [g]; decide) (Wp.ret ?_)
            rw [g]
        · unfold f_X11_played
          refine Wp.cl hr (Wp.cl k2 (Wp.cl (e_in1 (by rw [Int32.toInt_toInt64, hs, z0]; exact hv)) (Wp.j1 (Wp.ng (by decide) (Wp.cl (e_in1 (by rw [z0, z1]; exact hu)) (Wp.ng (by decide) (Wp.j1 (Wp.ng (by decide) ?_))))))))
          rw [q3]
          have e : (537 : Int32) + Int32.ofNat k = Int32.ofNat (537 + k) := i_ad' 537 k
          show Wp (gdi ((537 : Int32) + Int32.ofNat k) 665 (some (N.1 (x + 95 + 8) ((537 : Int32) + Int32.ofNat k).toNatClampNeg, N))) _
          rw [e]
          refine Wp.gi (i_rng (by omega) (by decide)) ?_
          rw [i_nn (by omega)]
          exact Wp.ret rfl
    · refine CallT.err (e := 0) (k := 1) hI (Wp.eq ?_) (Wp.eq ?_) rfl
      · unfold f_X10_played
        refine Wp.j1 (Wp.ng (nlt_of (by rw [e0]; omega)) (Wp.cl k1 (Wp.ng (nle_of (by omega)) (Wp.br (fun _ => Wp.ret rfl) (fun g3 => Wp.ng (nle_of ?_) (Wp.ret rfl))))))
        have := Int32.le_iff_toInt_le.mp (nlt_le.mp g3)
        rw [e0] at this
        rw [e1]
        omega
      · unfold f_X11_played
        exact Wp.cl hr (Wp.cl k2 (Wp.cl (e_in1 (by rw [Int32.toInt_toInt64, hs, z0]; exact hv)) (Wp.j1 (Wp.ng (by decide) (Wp.cl (e_in0 (by rw [z0, z1]; exact hu)) (Wp.ps rfl (Wp.cl e_fail (Wp.ret rfl))))))))
  · refine CallT.err (e := 0) (k := 1) hI (Wp.eq ?_) (Wp.eq ?_) rfl
    · unfold f_X10_played
      refine Wp.j1 (Wp.br (fun _ => Wp.ret rfl) (fun g1 => Wp.cl k1 (Wp.ps (le_of ?_) (Wp.ret rfl))))
      have := Int32.le_iff_toInt_le.mp (nlt_le.mp g1)
      rw [e0] at this
      omega
    · unfold f_X11_played
      exact Wp.cl hr (Wp.cl k2 (Wp.cl (e_in0 (by rw [Int32.toInt_toInt64, hs, z0]; exact hv)) (Wp.j1 (Wp.ps rfl (Wp.cl e_fail (Wp.ret rfl))))))
