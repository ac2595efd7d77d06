/-! flying, sample, count -/
theorem imin_comm (a b : Int32) : imin a b = imin b a := Int32.toInt_inj.mp (by
  rw [ti_min, ti_min]
  split <;> split <;> omega)
theorem call_flying {x : Nat} {L : LN} {M N0 N : Mem} {v u : Int32} (h : Rdy x L M N0 N) : CallT x κ0 M N (f_X10_flying x v u M) (f_X11_flying (x + 95) v u N0) := by
  obtain ⟨hr, hI, hc0⟩ := h
  obtain ⟨T, hT⟩ := hI.w0
  obtain ⟨m, ⟨hC, l1, l2, l3, l4, l5, l6⟩, _⟩ := hT.2.2
  have hm : M.1 (x + 19 + 1 + 1) 8 = Int32.ofNat m := hC.1.g31.trans l1
  have em : (Int32.ofNat m).toInt = m := Int32.toInt_ofNat_of_lt (by omega)
  have em1 : (Int32.ofNat m - 1).toInt = m - 1 := by
    have e1 : (1 : Int32).toInt = 1 := rfl
    rw [ti_sub (by rw [em, e1]; omega) (by rw [em, e1]; omega), em, e1]
  have e0 : (0 : Int32).toInt = 0 := rfl
  have e2 : (2 : Int32).toInt = 2 := rfl
  have z0 : (0 : Int64).toInt = 0 := rfl
  have z2 : (2 : Int64).toInt = 2 := rfl
  by_cases hv : 0 ≤ v.toInt ∧ v.toInt ≤ m - 1
  · by_cases hu : 0 ≤ u.toInt ∧ u.toInt ≤ 2
    · obtain ⟨k, hk, rfl⟩ : ∃ k : Nat, k < m ∧ v = Int32.ofNat k := ⟨v.toInt.toNat, by omega, nat_of hv.1⟩
      obtain ⟨j, hj, rfl⟩ : ∃ j : Nat, j ≤ 2 ∧ u = Int32.ofNat j := ⟨u.toInt.toNat, by omega, nat_of hu.1⟩
      have i33 : (33 : Int32) + (3 : Int32) * Int32.ofNat k + Int32.ofNat j = Int32.ofNat (33 + 3 * k + j) := by
        have e1 : (3 : Int32) * Int32.ofNat k = Int32.ofNat (3 * k) := (Int32.ofNat_mul 3 k).symm
        rw [e1]
        have e2 : (33 : Int32) + Int32.ofNat (3 * k) = Int32.ofNat (33 + 3 * k) := i_ad' 33 (3 * k)
        rw [e2]
        exact i_ad' _ _
      have hl := l3 k hk
      refine CallT.get (v := N.1 (x + 95 + 8) (33 + 3 * k + j)) hI hc0 (Wp.eq ?_) (Wp.eq ?_)
      · unfold f_X10_flying
        refine Wp.j0 (Wp.ng (nlt_of (by rw [e0]; omega)) (Wp.ng ?_ (Wp.ng (nlt_of (by rw [e0]; omega)) (Wp.ps (le_of (by rw [e2]; omega)) ?_))))
        · rw [hm]
          exact nle_of (by rw [em]; omega)
        · have hj' : j = 0 ∨ j = 1 ∨ j = 2 := by omega
          rcases hj' with rfl | rfl | rfl
          · refine Wp.ps rfl (Wp.cl (at_nat (by omega) (by decide)) (Wp.ret ?_))
            show (Sum.inl (getW M (x + 19 + 1) 2 k), M) = (Sum.inl (N.1 (x + 95 + 8) (33 + 3 * k)), M)
            rw [hl.1]
          · refine Wp.ng (by decide) (Wp.j2 (Wp.ps rfl (Wp.cl (at_nat (by omega) (by decide)) (Wp.ret ?_))))
            rw [← hl.2.1]
            rfl
          · refine Wp.ng (by decide) (Wp.j2 (Wp.ng (by decide) (Wp.cl (at_nat (by omega) (by decide)) (Wp.ret ?_))))
            rw [← hl.2.2]
            rfl
      · unfold f_X11_flying
        refine Wp.cl hr ?_
        rw [l1]
        refine Wp.cl (e_in1 (by rw [Int32.toInt_toInt64, em1, z0]; exact hv)) (Wp.j2 (Wp.j1 (Wp.ng (by decide) (Wp.cl (e_in1 (by rw [z0, z2]; exact hu)) (Wp.ng (by decide) ?_)))))
        rw [i33]
        refine Wp.gi (i_rng (by omega) (by decide)) ?_
        rw [i_nn (by omega)]
        exact Wp.ret rfl
    · refine CallT.err (e := 0) (k := 1) hI (Wp.eq ?_) (Wp.eq ?_) rfl
      · unfold f_X10_flying
        refine Wp.j0 (Wp.br (fun _ => Wp.ret rfl) (fun g1 => Wp.br (fun _ => Wp.ret rfl) (fun g2 => Wp.br (fun _ => Wp.ret rfl) (fun g3 => Wp.ng (nle_of ?_) (Wp.ret rfl)))))
        have := Int32.le_iff_toInt_le.mp (nlt_le.mp g3)
        rw [e0] at this
        rw [e2]
        omega
      · unfold f_X11_flying
        refine Wp.cl hr ?_
        rw [l1]
        exact Wp.cl (e_in1 (by rw [Int32.toInt_toInt64, em1, z0]; exact hv)) (Wp.j2 (Wp.j1 (Wp.ng (by decide) (Wp.cl (e_in0 (by rw [z0, z2]; exact hu)) (Wp.ps rfl (Wp.cl e_fail (Wp.ret rfl)))))))
  · refine CallT.err (e := 0) (k := 1) hI (Wp.eq ?_) (Wp.eq ?_) rfl
    · unfold f_X10_flying
      rw [hm]
      refine Wp.j0 (Wp.br (fun _ => Wp.ret rfl) (fun g1 => Wp.ps (le_of ?_) (Wp.ret rfl)))
      have := Int32.le_iff_toInt_le.mp (nlt_le.mp g1)
      rw [e0] at this
      rw [em]
      omega
    · unfold f_X11_flying
      refine Wp.cl hr ?_
      rw [l1]
      exact Wp.cl (e_in0 (by rw [Int32.toInt_toInt64, em1, z0]; exact hv)) (Wp.j2 (Wp.j1 (Wp.ps rfl (Wp.cl e_fail (Wp.ret rfl)))))
/-- what is kept of the samples: class and model -/
theorem skept {x : Nat} {z p i : Int32} {A B C D : Int} {M N : Mem} (hC : Core z p i A B C D (getW M (x + 19 + 1)) (N.1 (x + 95 + 8))) : f_X4_samplesKept (x + 19 + 1 + 5 + 4) M = some (imin (N.1 (x + 95 + 8) 32) 128, M) ∧ f_X11_samplesKept (x + 95) N = some (imin (N.1 (x + 95 + 8) 32) 128, N) := by
  constructor
  · have := e_skept (M := M) (w := x + 19 + 1) (c := getW M (x + 19 + 1))
    rw [set_get, hC.1.g32] at this
    exact this
  · refine Wp.eq ?_
    unfold f_X11_samplesKept
    refine Wp.cl (e_min _ _ _) (Wp.ret ?_)
    rw [imin_comm]
theorem samp {x : Nat} {z p i v : Int32} {A B C D : Int} {M N : Mem} (hC : Core z p i A B C D (getW M (x + 19 + 1)) (N.1 (x + 95 + 8))) (hD : D ≤ 100000000) (h0 : 0 ≤ v.toInt) (h1 : v.toInt < (imin (N.1 (x + 95 + 8) 32) 128).toInt) : ∃ u, f_X4_sampleAt (x + 19 + 1 + 5 + 4) v M = some (u, M) ∧ f_X11_sampleAt (x + 95) v N = some (u, N) ∧ -C ≤ u.toInt ∧ u.toInt ≤ C := by
  have hN := hC.2.2.2.2.1
  have p32 : 0 ≤ (N.1 (x + 95 + 8) 32).toInt ∧ (N.1 (x + 95 + 8) 32).toInt ≤ D := by
    unfold gN at hN
    omega
  have e128 : (128 : Int32).toInt = 128 := rfl
  have hm := ti_min (a := N.1 (x + 95 + 8) 32) (b := 128)
  rw [e128] at hm
  obtain ⟨k1, k2⟩ := skept hC
  generalize imin (N.1 (x + 95 + 8) 32) 128 = u at *
  have hub : 0 < u.toInt ∧ u.toInt ≤ 128 ∧ u.toInt ≤ (N.1 (x + 95 + 8) 32).toInt := by
    split at hm <;> omega
  have s1 : (N.1 (x + 95 + 8) 32 - u).toInt = (N.1 (x + 95 + 8) 32).toInt - u.toInt := ti_sub (by omega) (by omega)
  have s2 : (N.1 (x + 95 + 8) 32 - u + v).toInt = (N.1 (x + 95 + 8) 32).toInt - u.toInt + v.toInt := by
    rw [ti_add (by rw [s1]; omega) (by rw [s1]; omega), s1]
  have hrem := imod_rem (a := N.1 (x + 95 + 8) 32 - u + v) (b := 128) (by rw [s2]; omega) (by decide)
  have htm := ti_mod (a := N.1 (x + 95 + 8) 32 - u + v) (b := 128) (by decide)
  rw [e128, s2] at htm
  obtain ⟨k, hk⟩ : ∃ k : Nat, imod (N.1 (x + 95 + 8) 32 - u + v) 128 = Int32.ofNat k ∧ k < 128 ∧ (k : Int) < (N.1 (x + 95 + 8) 32).toInt := by
    refine ⟨(imod (N.1 (x + 95 + 8) 32 - u + v) 128).toInt.toNat, nat_of (by omega), by omega, by omega⟩
  obtain ⟨hk, hk1, hk2⟩ := hk
  have hA := hC.2.2.2.2.2.1 k hk1
  have hM := hC.2.2.2.2.2.2.2.2.2.2.1 k hk1 hk2
  refine ⟨N.1 (x + 95 + 8) (281 + k), Wp.eq ?_, Wp.eq ?_, hA.1⟩
  · unfold f_X4_sampleAt
    have g32 : M.1 (x + 19 + 1 + 5 + 4) 4 = N.1 (x + 95 + 8) 32 := hC.1.g32
    refine Wp.cl k1 ?_
    rw [g32]
    refine Wp.cl (e_mod _ _ _) ?_
    rw [hk]
    refine Wp.cl (at_nat hk1 (by decide)) (Wp.ret ?_)
    rw [← hM]
    rfl
  · unfold f_X11_sampleAt
    refine Wp.cl k2 ?_
    rw [← hrem, hk]
    have e : (281 : Int32) + Int32.ofNat k = Int32.ofNat (281 + k) := i_ad' 281 k
    rw [e]
    refine Wp.gi (i_rng (by omega) (by decide)) ?_
    rw [i_nn (by omega)]
    exact Wp.ret rfl
theorem call_sample {x : Nat} {L : LN} {M N0 N : Mem} {v : Int32} (h : Rdy x L M N0 N) : CallT x κ0 M N (f_X10_sample x v M) (f_X11_sample (x + 95) v N0) := by
  obtain ⟨hr, hI, hc0⟩ := h
  obtain ⟨T, hT, hC⟩ := hI.sc
  obtain ⟨k1, k2⟩ := skept hC
  have hb := ti_min (a := N.1 (x + 95 + 8) 32) (b := 128)
  have e0 : (0 : Int32).toInt = 0 := rfl
  have e1 : (1 : Int32).toInt = 1 := rfl
  have e128 : (128 : Int32).toInt = 128 := rfl
  have z0 : (0 : Int64).toInt = 0 := rfl
  have hN := hC.2.2.2.2.1
  have p32 : 0 ≤ (N.1 (x + 95 + 8) 32).toInt := by
    unfold gN at hN
    omega
  have hs : (imin (N.1 (x + 95 + 8) 32) 128 - 1).toInt = (imin (N.1 (x + 95 + 8) 32) 128).toInt - 1 := by
    rw [e128] at hb
    refine (ti_sub ?_ ?_).trans (by rw [e1]) <;> rw [e1] <;> split at hb <;> omega
  by_cases hv : 0 ≤ v.toInt ∧ v.toInt ≤ (imin (N.1 (x + 95 + 8) 32) 128).toInt - 1
  · obtain ⟨u, u1, u2, _⟩ := samp (v := v) hC (by have := hT.2.1; omega) hv.1 (by omega)
    refine CallT.get (v := u) hI hc0 (Wp.eq ?_) (Wp.eq ?_)
    · unfold f_X10_sample
      exact Wp.j1 (Wp.ng (nlt_of (by rw [e0]; omega)) (Wp.cl k1 (Wp.ps (lt_of (by omega)) (Wp.cl u1 (Wp.ret rfl)))))
    · unfold f_X11_sample
      exact Wp.cl hr (Wp.cl k2 (Wp.cl (e_in1 (by rw [Int32.toInt_toInt64, hs, z0]; exact hv)) (Wp.j2 (Wp.ng (by decide) (Wp.cl u2 (Wp.ret rfl))))))
  · refine CallT.err (e := 0) (k := 1) hI (Wp.eq ?_) (Wp.eq ?_) rfl
    · unfold f_X10_sample
      refine Wp.j1 (Wp.br (fun _ => Wp.ret rfl) (fun g1 => Wp.cl k1 (Wp.ng (nlt_of ?_) (Wp.ret rfl))))
      have := Int32.le_iff_toInt_le.mp (nlt_le.mp g1)
      rw [e0] at this
      omega
    · unfold f_X11_sample
      exact Wp.cl hr (Wp.cl k2 (Wp.cl (e_in0 (by rw [Int32.toInt_toInt64, hs, z0]; exact hv)) (Wp.j2 (Wp.ps rfl (Wp.cl e_fail (Wp.ret rfl))))))
