/-! what is asked of the world as it is: set, flying, slot -/
theorem i_ad' (a b : Nat) : Int32.ofNat a + Int32.ofNat b = Int32.ofNat (a + b) := (Int32.ofNat_add a b).symm
theorem CallT.get {x : Nat} {κ : Nat → Int32} {L : LN} {M N : Mem} {v : Int32} {fc : Option ((Int32 ⊕ Nat) × Mem)} {fm : Option (Int32 × Mem)} (h : Inv2 x L M N) (hc : N.1 (x + 95) 2 = 0) (e1 : fc = some (.inl v, M)) (e2 : fm = some (v, N)) : CallT x κ M N fc fm := ⟨_, _, _, _, L, e1, e2, h, FrC.rf, GS.rf.fr, Or.inl ⟨rfl, hc⟩⟩
theorem call_set {x : Nat} {L : LN} {M N0 N : Mem} {v : Int32} (h : Rdy x L M N0 N) : CallT x κ0 M N (f_X10_set x v M) (f_X11_set (x + 95) v N0) := by
  obtain ⟨hr, hI, hc0⟩ := h
  have ha := hI.at
  obtain ⟨T, hT, hC⟩ := hI.sc
  have hW := hI.1
  have hl : ∀ k, k < 8 → M.1 (M.2.2 0) k = L.1 k := hI.2.2.1.1
  have he : ∀ k, k < 8 → N.1 (x + 95 + 3) k = L.1 k := hI.2.2.2.1.1
  have h24 := hI.2.2.2.2.1
  have h25 := hI.2.2.2.2.2.1
  by_cases hw : 0 ≤ v.toInt ∧ v.toInt ≤ 14
  · obtain ⟨k, hk, rfl⟩ : ∃ k : Nat, k ≤ 14 ∧ v = Int32.ofNat k := ⟨v.toInt.toNat, by omega, nat_of hw.1⟩
    clear hw
    have hc' : k = 0 ∨ k = 1 ∨ k = 2 ∨ k = 3 ∨ k = 4 ∨ k = 5 ∨ k = 6 ∨ k = 7 ∨ k = 8 ∨ k = 9 ∨ k = 10 ∨ k = 11 ∨ k = 12 ∨ k = 13 ∨ k = 14 := by omega
    rcases hc' with rfl | rfl | rfl | rfl | rfl | rfl | rfl | rfl | rfl | rfl | rfl | rfl | rfl | rfl | rfl
    · have q1 : M.1 (M.2.2 0) 0 = L.1 0 := hl 0 (by decide)
      have q2 : N.1 (x + 95 + 3) 0 = L.1 0 := he 0 (by decide)
      refine CallT.get (v := L.1 0) hI hc0 (Wp.eq ?_) (Wp.eq ?_)
      · unfold f_X10_set
        refine Wp.ng (by decide) (Wp.ps rfl (Wp.gp ha ?_))
        rw [q1]
        exact Wp.ret rfl
      · unfold f_X11_set
        refine Wp.cl hr ?_
        refine Wp.ng (by decide) (Wp.ps rfl (?_))
        rw [q2]
        exact Wp.ret rfl
    · have q1 : M.1 (x + 19 + 1 + 5) 1 = N.1 (x + 95 + 8) 29 := hC.1.g29
      refine CallT.get (v := N.1 (x + 95 + 8) 29) hI hc0 (Wp.eq ?_) (Wp.eq ?_)
      · unfold f_X10_set
        refine Wp.ng (by decide) (Wp.ng (by decide) (Wp.ps rfl (?_)))
        rw [q1]
        exact Wp.ret rfl
      · unfold f_X11_set
        refine Wp.cl hr ?_
        exact Wp.ng (by decide) (Wp.ng (by decide) (Wp.ps rfl (Wp.ret rfl)))
    · have q1 : M.1 (M.2.2 0) 2 = L.1 2 := hl 2 (by decide)
      have q2 : N.1 (x + 95) 24 = L.1 2 := h24
      refine CallT.get (v := L.1 2) hI hc0 (Wp.eq ?_) (Wp.eq ?_)
      · unfold f_X10_set
        refine Wp.ng (by decide) (Wp.ng (by decide) (Wp.ng (by decide) (Wp.ps rfl (Wp.gp ha ?_))))
        rw [q1]
        exact Wp.ret rfl
      · unfold f_X11_set
        refine Wp.cl hr ?_
        refine Wp.ng (by decide) (Wp.ng (by decide) (Wp.ng (by decide) (Wp.ps rfl (?_))))
        rw [q2]
        exact Wp.ret rfl
    · have q1 : M.1 (M.2.2 0) 3 = L.1 3 := hl 3 (by decide)
      have q2 : N.1 (x + 95) 25 = L.1 3 := h25
      refine CallT.get (v := L.1 3) hI hc0 (Wp.eq ?_) (Wp.eq ?_)
      · unfold f_X10_set
        refine Wp.ng (by decide) (Wp.ng (by decide) (Wp.ng (by decide) (Wp.ng (by decide) (Wp.ps rfl (Wp.gp ha ?_)))))
        rw [q1]
        exact Wp.ret rfl
      · unfold f_X11_set
        refine Wp.cl hr ?_
        refine Wp.ng (by decide) (Wp.ng (by decide) (Wp.ng (by decide) (Wp.ng (by decide) (Wp.ps rfl (?_)))))
        rw [q2]
        exact Wp.ret rfl
    · have q1 : M.1 (M.2.2 0) 4 = L.1 4 := hl 4 (by decide)
      have q2 : N.1 (x + 95 + 3) 4 = L.1 4 := he 4 (by decide)
      refine CallT.get (v := L.1 4) hI hc0 (Wp.eq ?_) (Wp.eq ?_)
      · unfold f_X10_set
        refine Wp.ng (by decide) (Wp.ng (by decide) (Wp.ng (by decide) (Wp.ng (by decide) (Wp.ng (by decide) (Wp.ps rfl (Wp.gp ha ?_))))))
        rw [q1]
        exact Wp.ret rfl
      · unfold f_X11_set
        refine Wp.cl hr ?_
        refine Wp.ng (by decide) (Wp.ng (by decide) (Wp.ng (by decide) (Wp.ng (by decide) (Wp.ng (by decide) (Wp.ps rfl (?_))))))
        rw [q2]
        exact Wp.ret rfl
    · have q1 : M.1 (x + 19 + 1 + 1) 0 = N.1 (x + 95 + 8) 27 := hC.1.g27
      refine CallT.get (v := N.1 (x + 95 + 8) 27) hI hc0 (Wp.eq ?_) (Wp.eq ?_)
      · unfold f_X10_set
        refine Wp.ng (by decide) (Wp.ng (by decide) (Wp.ng (by decide) (Wp.ng (by decide) (Wp.ng (by decide) (Wp.ng (by decide) (Wp.ps rfl (?_)))))))
        rw [q1]
        exact Wp.ret rfl
      · unfold f_X11_set
        refine Wp.cl hr ?_
        exact Wp.ng (by decide) (Wp.ng (by decide) (Wp.ng (by decide) (Wp.ng (by decide) (Wp.ng (by decide) (Wp.ng (by decide) (Wp.ps rfl (Wp.ret rfl)))))))
    · have q1 : M.1 (M.2.2 0) 6 = L.1 6 := hl 6 (by decide)
      have q2 : N.1 (x + 95 + 3) 6 = L.1 6 := he 6 (by decide)
      refine CallT.get (v := L.1 6) hI hc0 (Wp.eq ?_) (Wp.eq ?_)
      · unfold f_X10_set
        refine Wp.ng (by decide) (Wp.ng (by decide) (Wp.ng (by decide) (Wp.ng (by decide) (Wp.ng (by decide) (Wp.ng (by decide) (Wp.ng (by decide) (Wp.ps rfl (Wp.gp ha ?_))))))))
        rw [q1]
        exact Wp.ret rfl
      · unfold f_X11_set
        refine Wp.cl hr ?_
        refine Wp.ng (by decide) (Wp.ng (by decide) (Wp.ng (by decide) (Wp.ng (by decide) (Wp.ng (by decide) (Wp.ng (by decide) (Wp.ng (by decide) (Wp.ps rfl (?_))))))))
        rw [q2]
        exact Wp.ret rfl
    · have q1 : M.1 (M.2.2 0) 7 = L.1 7 := hl 7 (by decide)
      have q2 : N.1 (x + 95 + 3) 7 = L.1 7 := he 7 (by decide)
      refine CallT.get (v := L.1 7) hI hc0 (Wp.eq ?_) (Wp.eq ?_)
      · unfold f_X10_set
        refine Wp.ng (by decide) (Wp.ng (by decide) (Wp.ng (by decide) (Wp.ng (by decide) (Wp.ng (by decide) (Wp.ng (by decide) (Wp.ng (by decide) (Wp.ng (by decide) (Wp.ps rfl (Wp.gp ha ?_)))))))))
        rw [q1]
        exact Wp.ret rfl
      · unfold f_X11_set
        refine Wp.cl hr ?_
        refine Wp.ng (by decide) (Wp.ng (by decide) (Wp.ng (by decide) (Wp.ng (by decide) (Wp.ng (by decide) (Wp.ng (by decide) (Wp.ng (by decide) (Wp.ng (by decide) (Wp.ps rfl (?_)))))))))
        rw [q2]
        exact Wp.ret rfl
    · have q1 : M.1 (x + 19 + 1 + 5) 2 = N.1 (x + 95 + 8) 28 := hC.1.g28
      refine CallT.get (v := N.1 (x + 95 + 8) 28) hI hc0 (Wp.eq ?_) (Wp.eq ?_)
      · unfold f_X10_set
        refine Wp.ng (by decide) (Wp.ng (by decide) (Wp.ng (by decide) (Wp.ng (by decide) (Wp.ng (by decide) (Wp.ng (by decide) (Wp.ng (by decide) (Wp.ng (by decide) (Wp.ng (by decide) (Wp.ps rfl (?_))))))))))
        rw [q1]
        exact Wp.ret rfl
      · unfold f_X11_set
        refine Wp.cl hr ?_
        exact Wp.ng (by decide) (Wp.ng (by decide) (Wp.ng (by decide) (Wp.ng (by decide) (Wp.ng (by decide) (Wp.ng (by decide) (Wp.ng (by decide) (Wp.ng (by decide) (Wp.ng (by decide) (Wp.ps rfl (Wp.ret rfl))))))))))
    · have q1 : M.1 (x + 19 + 1 + 1) 6 = N.1 (x + 95 + 8) 25 := hC.1.g25
      refine CallT.get (v := N.1 (x + 95 + 8) 25) hI hc0 (Wp.eq ?_) (Wp.eq ?_)
      · unfold f_X10_set
        refine Wp.ng (by decide) (Wp.ng (by decide) (Wp.ng (by decide) (Wp.ng (by decide) (Wp.ng (by decide) (Wp.ng (by decide) (Wp.ng (by decide) (Wp.ng (by decide) (Wp.ng (by decide) (Wp.ng (by decide) (Wp.ps rfl (?_)))))))))))
        rw [q1]
        exact Wp.ret rfl
      · unfold f_X11_set
        refine Wp.cl hr ?_
        exact Wp.ng (by decide) (Wp.ng (by decide) (Wp.ng (by decide) (Wp.ng (by decide) (Wp.ng (by decide) (Wp.ng (by decide) (Wp.ng (by decide) (Wp.ng (by decide) (Wp.ng (by decide) (Wp.ng (by decide) (Wp.ps rfl (Wp.ret rfl)))))))))))
    · have q1 : M.1 (x + 19 + 1 + 1) 7 = N.1 (x + 95 + 8) 26 := hC.1.g26
      refine CallT.get (v := N.1 (x + 95 + 8) 26) hI hc0 (Wp.eq ?_) (Wp.eq ?_)
      · unfold f_X10_set
        refine Wp.ng (by decide) (Wp.ng (by decide) (Wp.ng (by decide) (Wp.ng (by decide) (Wp.ng (by decide) (Wp.ng (by decide) (Wp.ng (by decide) (Wp.ng (by decide) (Wp.ng (by decide) (Wp.ng (by decide) (Wp.ng (by decide) (Wp.ps rfl (?_))))))))))))
        rw [q1]
        exact Wp.ret rfl
      · unfold f_X11_set
        refine Wp.cl hr ?_
        exact Wp.ng (by decide) (Wp.ng (by decide) (Wp.ng (by decide) (Wp.ng (by decide) (Wp.ng (by decide) (Wp.ng (by decide) (Wp.ng (by decide) (Wp.ng (by decide) (Wp.ng (by decide) (Wp.ng (by decide) (Wp.ng (by decide) (Wp.ps rfl (Wp.ret rfl))))))))))))
    · have q1 : M.1 (x + 19 + 1 + 1) 1 = N.1 (x + 95 + 8) 22 := hC.1.g22
      refine CallT.get (v := N.1 (x + 95 + 8) 22) hI hc0 (Wp.eq ?_) (Wp.eq ?_)
      · unfold f_X10_set
        refine Wp.ng (by decide) (Wp.ng (by decide) (Wp.ng (by decide) (Wp.ng (by decide) (Wp.ng (by decide) (Wp.ng (by decide) (Wp.ng (by decide) (Wp.ng (by decide) (Wp.ng (by decide) (Wp.ng (by decide) (Wp.ng (by decide) (Wp.ng (by decide) (Wp.ps rfl (?_)))))))))))))
        rw [q1]
        exact Wp.ret rfl
      · unfold f_X11_set
        refine Wp.cl hr ?_
        exact Wp.ng (by decide) (Wp.ng (by decide) (Wp.ng (by decide) (Wp.ng (by decide) (Wp.ng (by decide) (Wp.ng (by decide) (Wp.ng (by decide) (Wp.ng (by decide) (Wp.ng (by decide) (Wp.ng (by decide) (Wp.ng (by decide) (Wp.ng (by decide) (Wp.ps rfl (Wp.ret rfl)))))))))))))
    · have q1 : M.1 (x + 19 + 1 + 5) 5 = N.1 (x + 95 + 8) 23 := hC.1.g23
      refine CallT.get (v := N.1 (x + 95 + 8) 23) hI hc0 (Wp.eq ?_) (Wp.eq ?_)
      · unfold f_X10_set
        refine Wp.ng (by decide) (Wp.ng (by decide) (Wp.ng (by decide) (Wp.ng (by decide) (Wp.ng (by decide) (Wp.ng (by decide) (Wp.ng (by decide) (Wp.ng (by decide) (Wp.ng (by decide) (Wp.ng (by decide) (Wp.ng (by decide) (Wp.ng (by decide) (Wp.ng (by decide) (Wp.ps rfl (?_))))))))))))))
        rw [q1]
        exact Wp.ret rfl
      · unfold f_X11_set
        refine Wp.cl hr ?_
        exact Wp.ng (by decide) (Wp.ng (by decide) (Wp.ng (by decide) (Wp.ng (by decide) (Wp.ng (by decide) (Wp.ng (by decide) (Wp.ng (by decide) (Wp.ng (by decide) (Wp.ng (by decide) (Wp.ng (by decide) (Wp.ng (by decide) (Wp.ng (by decide) (Wp.ng (by decide) (Wp.ps rfl (Wp.ret rfl))))))))))))))
    · have hz : M.1 (M.2.2 0) 0 = L.1 0 := hl 0 (by decide)
      have hz' : N.1 (x + 95 + 3) 0 = L.1 0 := he 0 (by decide)
      have h14 : M.1 (x + 19 + 1 + 5 + 1) 0 = N.1 (x + 95 + 8) 14 := hC.1.g14
      have p14 : 0 ≤ (N.1 (x + 95 + 8) 14).toInt := by
        have := hC.2.2.2.2.1
        unfold gN at this
        omega
      have pz : (64 * L.1 0).toInt = 64 * (L.1 0).toInt := by
        have e64 : (64 : Int32).toInt = 64 := rfl
        have := hW.1
        rw [ti_mul (by rw [e64]; omega) (by rw [e64]; omega), e64]
      have qz : 0 < (64 * L.1 0).toInt := by have := hW.1; omega
      have em : imod (N.1 (x + 95 + 8) 14) (64 * L.1 0) = N.1 (x + 95 + 8) 14 - N.1 (x + 95 + 8) 14 / (64 * L.1 0) * (64 * L.1 0) := imod_rem p14 qz
      refine CallT.get (v := imod (N.1 (x + 95 + 8) 14) (64 * L.1 0)) hI hc0 (Wp.eq ?_) (Wp.eq ?_)
      · unfold f_X10_set
        refine Wp.ng (by decide) (Wp.ng (by decide) (Wp.ng (by decide) (Wp.ng (by decide) (Wp.ng (by decide) (Wp.ng (by decide) (Wp.ng (by decide) (Wp.ng (by decide) (Wp.ng (by decide) (Wp.ng (by decide) (Wp.ng (by decide) (Wp.ng (by decide) (Wp.ng (by decide) (Wp.ng (by decide) (Wp.ps rfl (Wp.gp ha ?_)))))))))))))))
        rw [h14, hz]
        exact Wp.cl (e_mod _ _ _) (Wp.ret rfl)
      · unfold f_X11_set
        refine Wp.cl hr ?_
        refine Wp.ng (by decide) (Wp.ng (by decide) (Wp.ng (by decide) (Wp.ng (by decide) (Wp.ng (by decide) (Wp.ng (by decide) (Wp.ng (by decide) (Wp.ng (by decide) (Wp.ng (by decide) (Wp.ng (by decide) (Wp.ng (by decide) (Wp.ng (by decide) (Wp.ng (by decide) (Wp.ng (by decide) (Wp.ps rfl (Wp.gp ?_ ?_)))))))))))))))
        · rw [hz']
          intro g
          rw [g] at qz
          exact absurd qz (by decide)
        · rw [hz', ← em]
          exact Wp.ret rfl
    · have q1 : M.1 (x + 19 + 1 + 5) 8 = N.1 (x + 95 + 8) 11 := hC.1.g11
      refine CallT.get (v := N.1 (x + 95 + 8) 11) hI hc0 (Wp.eq ?_) (Wp.eq ?_)
      · unfold f_X10_set
        refine Wp.ng (by decide) (Wp.ng (by decide) (Wp.ng (by decide) (Wp.ng (by decide) (Wp.ng (by decide) (Wp.ng (by decide) (Wp.ng (by decide) (Wp.ng (by decide) (Wp.ng (by decide) (Wp.ng (by decide) (Wp.ng (by decide) (Wp.ng (by decide) (Wp.ng (by decide) (Wp.ng (by decide) (Wp.ng (by decide) (Wp.ps rfl (?_))))))))))))))))
        rw [q1]
        exact Wp.ret rfl
      · unfold f_X11_set
        refine Wp.cl hr ?_
        exact Wp.ng (by decide) (Wp.ng (by decide) (Wp.ng (by decide) (Wp.ng (by decide) (Wp.ng (by decide) (Wp.ng (by decide) (Wp.ng (by decide) (Wp.ng (by decide) (Wp.ng (by decide) (Wp.ng (by decide) (Wp.ng (by decide) (Wp.ng (by decide) (Wp.ng (by decide) (Wp.ng (by decide) (Wp.ng (by decide) (Wp.ps rfl (Wp.ret rfl))))))))))))))))
  · refine CallT.err (e := 0) (k := 1) hI (Wp.eq ?_) (Wp.eq ?_) rfl
    · unfold f_X10_set
      exact Wp.ps (by omega) (Wp.ret rfl)
    · unfold f_X11_set
      exact Wp.cl hr (Wp.ps (by omega) (Wp.cl e_fail (Wp.ret rfl)))
theorem call_slot {x : Nat} {L : LN} {M N0 N : Mem} {v : Int32} (h : Rdy x L M N0 N) : CallT x κ0 M N (f_X10_slot x v M) (f_X11_slot (x + 95) v N0) := by
  obtain ⟨hr, hI, hc0⟩ := h
  have ha := hI.at
  obtain ⟨T, hT, hC⟩ := hI.sc
  have hW := hI.1
  have e0 : (0 : Int32).toInt = 0 := rfl
  have e64 : (64 : Int32).toInt = 64 := rfl
  have z0 : (0 : Int64).toInt = 0 := rfl
  have z63 : (63 : Int64).toInt = 63 := rfl
  by_cases hw : 0 ≤ v.toInt ∧ v.toInt ≤ 63
  · obtain ⟨k, hk, rfl⟩ : ∃ k : Nat, k ≤ 63 ∧ v = Int32.ofNat k := ⟨v.toInt.toNat, by omega, nat_of hw.1⟩
    have hz : M.1 (M.2.2 0) 0 = L.1 0 := hI.2.2.1.1 0 (by decide)
    have hz' : N.1 (x + 95 + 3) 0 = L.1 0 := hI.2.2.2.1.1 0 (by decide)
    have hz0 : ¬ L.1 0 = 0 := fun e => by
      have := hW.1
      rw [e, e0] at this
      omega
    have hw1 := e_waiting (M := M) (w := x + 19 + 1) (c := getW M (x + 19 + 1)) (a := Int32.ofNat k) (z := L.1 0)
    rw [set_get] at hw1
    have hS := hC.2.2.2.2.2.2.1.2 k (by omega)
    have hA := hC.2.2.2.2.2.2.2.2.1 k (by omega)
    have h14 : getW M (x + 19 + 1) 6 0 = N.1 (x + 95 + 8) 14 := hC.1.g14
    have hsp : f_X11_spotNow (x + 95) N = some (N.1 (x + 95 + 8) 14 / L.1 0, N) := by
      have := m_spot (N := N) (t := x + 95) (r := N.1 (x + 95 + 8)) hz' hz0
      rw [rset_get] at this
      exact this
    have em1 : (-1 : Int32).toInt = -1 := rfl
    have i153 : (153 : Int32) + Int32.ofNat k = Int32.ofNat (153 + k) := i_ad' 153 k
    have i217 : (217 : Int32) + Int32.ofNat k = Int32.ofNat (217 + k) := i_ad' 217 k
    refine CallT.get (v := waitC (Int32.ofNat k) (L.1 0) (getW M (x + 19 + 1))) hI hc0 (Wp.eq ?_) (Wp.eq ?_)
    · unfold f_X10_slot
      refine Wp.j0 (Wp.ng (nlt_of (by rw [e0]; omega)) (Wp.ps (lt_of (by rw [e64]; omega)) (Wp.gp ha ?_)))
      rw [hz]
      exact Wp.cl hw1 (Wp.ret rfl)
    · unfold f_X11_slot
      refine Wp.cl hr (Wp.cl (e_in1 (by rw [z0, z63]; exact hw)) (Wp.ng (by decide) ?_))
      rw [i153, i217]
      refine Wp.gi (i_rng (by omega) (by decide)) (Wp.j2 (Wp.j1 ?_))
      rw [i_nn (by omega), i_nn (by omega)]
      unfold waitC iby
      rw [cget_nat (by omega) (by decide), cget_nat (by omega) (by decide), hA.1, h14, if_neg hz0]
      rcases hS with ⟨s1, s2⟩ | ⟨_, s1, _, s2, _⟩
      · rw [if_pos s2]
        exact Wp.ps s1 (Wp.ret rfl)
      · have n1 : ¬ N.1 (x + 95 + 8) (153 + k) = -1 := fun e => by rw [e, em1] at s1; omega
        have n2 : ¬ N.1 (x + 95 + 8) (217 + k) = -1 := fun e => by rw [e, em1] at s2; omega
        rw [if_neg n2, hA.2 n2]
        refine Wp.ng n1 (Wp.gi (i_rng (by omega) (by decide)) (Wp.cl hsp ?_))
        by_cases g : N.1 (x + 95 + 8) (217 + k) < N.1 (x + 95 + 8) 14 / L.1 0
        · refine Wp.ps g (Wp.ret ?_)
          rw [if_pos g]
        · refine Wp.ng g (Wp.gi (i_rng (by omega) (by decide)) (Wp.ret ?_))
          rw [if_neg g]
  · refine CallT.err (e := 0) (k := 1) hI (Wp.eq ?_) (Wp.eq ?_) rfl
    · unfold f_X10_slot
      refine Wp.j0 (Wp.br (fun _ => Wp.ret rfl) (fun g => Wp.ng (nlt_of ?_) (Wp.ret rfl)))
      have := Int32.le_iff_toInt_le.mp (nlt_le.mp g)
      rw [e0] at this
      rw [e64]
      omega
    · unfold f_X11_slot
      exact Wp.cl hr (Wp.cl (e_in0 (by rw [z0, z63]; exact hw)) (Wp.ps rfl (Wp.cl e_fail (Wp.ret rfl))))
