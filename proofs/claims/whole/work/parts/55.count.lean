/-! count, played -/
theorem okept {x : Nat} {z p i : Int32} {A B C D : Int} {M N : Mem} (hC : Core z p i A B C D (getW M (x + 19 + 1)) (N.1 (x + 95 + 8))) : f_X4_octetsKept (x + 19 + 1 + 5 + 4) M = some (imin (N.1 (x + 95 + 8) 6) 128, M) ∧ f_X11_playedKept (x + 95) N = some (imin (N.1 (x + 95 + 8) 6) 128, N) := by
  constructor
  · have := e_okept (M := M) (w := x + 19 + 1) (c := getW M (x + 19 + 1))
    rw [set_get, hC.1.g6] at this
    exact this
  · refine Wp.eq ?_
    unfold f_X11_playedKept
    refine Wp.cl (e_min _ _ _) (Wp.ret ?_)
    rw [imin_comm]
def regR (z : Int32) (r : Nat → Int32) : Int32 := if r 8 = 0 then 10000 else if r 20 = 0 then 10000 else 1000 * z * r 21 / r 20 - 1000
theorem regained {x : Nat} {z p i : Int32} {A B C D : Int} {M N : Mem} (hC : Core z p i A B C D (getW M (x + 19 + 1)) (N.1 (x + 95 + 8))) (hz : N.1 (x + 95 + 3) 0 = z) : f_X5_regained (x + 19 + 1 + 5) z M = some (regR z (N.1 (x + 95 + 8)), M) ∧ f_X11_regained (x + 95) N = some (regR z (N.1 (x + 95 + 8)), N) := by
  have g8 : M.1 (x + 19 + 1 + 5) 0 = N.1 (x + 95 + 8) 8 := hC.1.g8
  have g20 : M.1 (x + 19 + 1 + 5 + 1) 3 = N.1 (x + 95 + 8) 20 := hC.1.g20
  have hT := hC.2.2.2.2.2.2.2.1
  have hA := hC.2.2.2.2.2.2.2.2.2.2.2.1
  constructor
  · refine Wp.eq ?_
    unfold f_X5_regained regR
    rw [g8, g20]
    refine Wp.j0 ?_
    by_cases h8 : N.1 (x + 95 + 8) 8 = 0
    · refine Wp.ps h8 (Wp.ret ?_)
      rw [if_pos h8]
    · refine Wp.ng h8 ?_
      by_cases h20 : N.1 (x + 95 + 8) 20 = 0
      · refine Wp.ps h20 (Wp.ret ?_)
        rw [if_neg h8, if_pos h20]
      · refine Wp.ng h20 ?_
        have hs : f_X0_spread (x + 19 + 1 + 5 + 1) M = some (N.1 (x + 95 + 8) 21, M) := by
          unfold f_X0_spread
          have a1 : M.1 (x + 19 + 1 + 5 + 1) 7 = N.1 (x + 95 + 8) 18 := hA h8
          have a2 : M.1 (x + 19 + 1 + 5 + 1) 6 = N.1 (x + 95 + 8) 17 := hC.1.g17
          rw [a1, a2, (hT h8).2.1]
        refine Wp.cl hs ?_
        rw [g20]
        refine Wp.cl (e_by _ _ _) (Wp.ret ?_)
        rw [if_neg h8, if_neg h20]
        unfold iby
        rw [if_neg h20]
  · refine Wp.eq ?_
    unfold f_X11_regained regR
    rw [hz]
    refine Wp.j1 (Wp.j0 ?_)
    by_cases h8 : N.1 (x + 95 + 8) 8 = 0
    · refine Wp.ps h8 (Wp.ret ?_)
      rw [if_pos h8]
    · refine Wp.ng h8 ?_
      by_cases h20 : N.1 (x + 95 + 8) 20 = 0
      · refine Wp.ps h20 (Wp.ret ?_)
        rw [if_neg h8, if_pos h20]
      · refine Wp.ng h20 (Wp.gp h20 (Wp.ret ?_))
        rw [if_neg h8, if_neg h20]
theorem call_count {x : Nat} {L : LN} {M N0 N : Mem} {v : Int32} (h : Rdy x L M N0 N) : CallT x κ0 M N (f_X10_count x v M) (f_X11_count (x + 95) v N0) := by
  obtain ⟨hr, hI, hc0⟩ := h
  have ha := hI.at
  obtain ⟨T, hT, hC⟩ := hI.sc
  have hW := hI.1
  obtain ⟨n, nn, c1, c2, c3⟩ := hI.2.2.2.2.2.2.2.2.2.1
  have hst := c3.2.2.2.2.2.2.2.2.2
  have hz : M.1 (M.2.2 0) 0 = L.1 0 := hI.2.2.1.1 0 (by decide)
  have hz' : N.1 (x + 95 + 3) 0 = L.1 0 := hI.2.2.2.1.1 0 (by decide)
  obtain ⟨q1, q2⟩ := regained hC hz'
  obtain ⟨k1, k2⟩ := skept hC
  have hlev : f_X5_level (x + 19 + 1 + 5) (L.1 0) M = some (levR (L.1 0) (N.1 (x + 95 + 8)), M) ∧ f_X11_levelNow (x + 95) N = some (levR (L.1 0) (N.1 (x + 95 + 8)), N) := by
    have e := e_nlevel (M := M) (w := x + 19 + 1) (c := getW M (x + 19 + 1)) (z := L.1 0)
    rw [set_get, level_ok hW.1 (by have := hT.2.1; omega) hC] at e
    have m := m_level (N := N) (t := x + 95) (r := N.1 (x + 95 + 8)) (z := L.1 0) hz' (fun e => by have := hW.1; rw [e] at this; exact absurd this (by decide)) (fun h8 => sf_ok hW.1 hC h8)
    rw [rset_get] at m
    exact ⟨e, m⟩
  obtain ⟨v1, v2⟩ := hlev
  obtain ⟨kk, b1, b2, b3, b4⟩ := hI.2.2.2.2.2.2.2.1
  by_cases hw : 0 ≤ v.toInt ∧ v.toInt ≤ 22
  · obtain ⟨k, hk, rfl⟩ : ∃ k : Nat, k ≤ 22 ∧ v = Int32.ofNat k := ⟨v.toInt.toNat, by omega, nat_of hw.1⟩
    clear hw
    have hc' : k = 0 ∨ k = 1 ∨ k = 2 ∨ k = 3 ∨ k = 4 ∨ k = 5 ∨ k = 6 ∨ k = 7 ∨ k = 8 ∨ k = 9 ∨ k = 10 ∨ k = 11 ∨ k = 12 ∨ k = 13 ∨ k = 14 ∨ k = 15 ∨ k = 16 ∨ k = 17 ∨ k = 18 ∨ k = 19 ∨ k = 20 ∨ k = 21 ∨ k = 22 := by omega
    rcases hc' with rfl | rfl | rfl | rfl | rfl | rfl | rfl | rfl | rfl | rfl | rfl | rfl | rfl | rfl | rfl | rfl | rfl | rfl | rfl | rfl | rfl | rfl | rfl
    · have q1 : M.1 (x + 19 + 1) 0 = N.1 (x + 95 + 8) 0 := hC.1.g0
      refine CallT.get (v := N.1 (x + 95 + 8) 0) hI hc0 (Wp.eq ?_) (Wp.eq ?_)
      · unfold f_X10_count
        refine Wp.ng (by decide) (Wp.ps rfl (?_))
        rw [q1]
        exact Wp.ret rfl
      · unfold f_X11_count
        refine Wp.cl hr (Wp.j0 ?_)
        exact Wp.ng (by decide) (Wp.ps rfl (Wp.ret rfl))
    · have q1 : M.1 (x + 19 + 1 + 1) 2 = N.1 (x + 95 + 8) 1 := hC.1.g1
      refine CallT.get (v := N.1 (x + 95 + 8) 1) hI hc0 (Wp.eq ?_) (Wp.eq ?_)
      · unfold f_X10_count
        refine Wp.ng (by decide) (Wp.ng (by decide) (Wp.ps rfl (?_)))
        rw [q1]
        exact Wp.ret rfl
      · unfold f_X11_count
        refine Wp.cl hr (Wp.j0 ?_)
        exact Wp.ng (by decide) (Wp.ng (by decide) (Wp.ps rfl (Wp.ret rfl)))
    · have q1 : M.1 (x + 19 + 1 + 1) 3 = N.1 (x + 95 + 8) 2 := hC.1.g2
      refine CallT.get (v := N.1 (x + 95 + 8) 2) hI hc0 (Wp.eq ?_) (Wp.eq ?_)
      · unfold f_X10_count
        refine Wp.ng (by decide) (Wp.ng (by decide) (Wp.ng (by decide) (Wp.ps rfl (?_))))
        rw [q1]
        exact Wp.ret rfl
      · unfold f_X11_count
        refine Wp.cl hr (Wp.j0 ?_)
        exact Wp.ng (by decide) (Wp.ng (by decide) (Wp.ng (by decide) (Wp.ps rfl (Wp.ret rfl))))
    · have q1 : M.1 (x + 19 + 1 + 1) 4 = N.1 (x + 95 + 8) 3 := hC.1.g3
      refine CallT.get (v := N.1 (x + 95 + 8) 3) hI hc0 (Wp.eq ?_) (Wp.eq ?_)
      · unfold f_X10_count
        refine Wp.ng (by decide) (Wp.ng (by decide) (Wp.ng (by decide) (Wp.ng (by decide) (Wp.ps rfl (?_)))))
        rw [q1]
        exact Wp.ret rfl
      · unfold f_X11_count
        refine Wp.cl hr (Wp.j0 ?_)
        exact Wp.ng (by decide) (Wp.ng (by decide) (Wp.ng (by decide) (Wp.ng (by decide) (Wp.ps rfl (Wp.ret rfl)))))
    · have q1 : M.1 (x + 19 + 1 + 1) 8 = N.1 (x + 95 + 8) 31 := hC.1.g31
      refine CallT.get (v := N.1 (x + 95 + 8) 31) hI hc0 (Wp.eq ?_) (Wp.eq ?_)
      · unfold f_X10_count
        refine Wp.ng (by decide) (Wp.ng (by decide) (Wp.ng (by decide) (Wp.ng (by decide) (Wp.ng (by decide) (Wp.ps rfl (?_))))))
        rw [q1]
        exact Wp.ret rfl
      · unfold f_X11_count
        refine Wp.cl hr (Wp.j0 ?_)
        exact Wp.ng (by decide) (Wp.ng (by decide) (Wp.ng (by decide) (Wp.ng (by decide) (Wp.ng (by decide) (Wp.ps rfl (Wp.ret rfl))))))
    · have q1 : M.1 (x + 19 + 1 + 5 + 1) 1 = N.1 (x + 95 + 8) 4 := hC.1.g4
      refine CallT.get (v := N.1 (x + 95 + 8) 4) hI hc0 (Wp.eq ?_) (Wp.eq ?_)
      · unfold f_X10_count
        refine Wp.ng (by decide) (Wp.ng (by decide) (Wp.ng (by decide) (Wp.ng (by decide) (Wp.ng (by decide) (Wp.ng (by decide) (Wp.ps rfl (?_)))))))
        rw [q1]
        exact Wp.ret rfl
      · unfold f_X11_count
        refine Wp.cl hr (Wp.j0 ?_)
        exact Wp.ng (by decide) (Wp.ng (by decide) (Wp.ng (by decide) (Wp.ng (by decide) (Wp.ng (by decide) (Wp.ng (by decide) (Wp.ps rfl (Wp.ret rfl)))))))
    · have q1 : M.1 (x + 19 + 1 + 5 + 1) 2 = N.1 (x + 95 + 8) 5 := hC.1.g5
      refine CallT.get (v := N.1 (x + 95 + 8) 5) hI hc0 (Wp.eq ?_) (Wp.eq ?_)
      · unfold f_X10_count
        refine Wp.ng (by decide) (Wp.ng (by decide) (Wp.ng (by decide) (Wp.ng (by decide) (Wp.ng (by decide) (Wp.ng (by decide) (Wp.ng (by decide) (Wp.ps rfl (?_))))))))
        rw [q1]
        exact Wp.ret rfl
      · unfold f_X11_count
        refine Wp.cl hr (Wp.j0 ?_)
        exact Wp.ng (by decide) (Wp.ng (by decide) (Wp.ng (by decide) (Wp.ng (by decide) (Wp.ng (by decide) (Wp.ng (by decide) (Wp.ng (by decide) (Wp.ps rfl (Wp.ret rfl))))))))
    · have q1 : M.1 (x + 19 + 1 + 5 + 4) 0 = N.1 (x + 95 + 8) 6 := hC.1.g6
      refine CallT.get (v := N.1 (x + 95 + 8) 6) hI hc0 (Wp.eq ?_) (Wp.eq ?_)
      · unfold f_X10_count
        refine Wp.ng (by decide) (Wp.ng (by decide) (Wp.ng (by decide) (Wp.ng (by decide) (Wp.ng (by decide) (Wp.ng (by decide) (Wp.ng (by decide) (Wp.ng (by decide) (Wp.ps rfl (?_)))))))))
        rw [q1]
        exact Wp.ret rfl
      · unfold f_X11_count
        refine Wp.cl hr (Wp.j0 ?_)
        exact Wp.ng (by decide) (Wp.ng (by decide) (Wp.ng (by decide) (Wp.ng (by decide) (Wp.ng (by decide) (Wp.ng (by decide) (Wp.ng (by decide) (Wp.ng (by decide) (Wp.ps rfl (Wp.ret rfl)))))))))
    · have q1 : M.1 (x + 19 + 1 + 5 + 4) 1 = N.1 (x + 95 + 8) 7 := hC.1.g7
      refine CallT.get (v := N.1 (x + 95 + 8) 7) hI hc0 (Wp.eq ?_) (Wp.eq ?_)
      · unfold f_X10_count
        refine Wp.ng (by decide) (Wp.ng (by decide) (Wp.ng (by decide) (Wp.ng (by decide) (Wp.ng (by decide) (Wp.ng (by decide) (Wp.ng (by decide) (Wp.ng (by decide) (Wp.ng (by decide) (Wp.ps rfl (?_))))))))))
        rw [q1]
        exact Wp.ret rfl
      · unfold f_X11_count
        refine Wp.cl hr (Wp.j0 ?_)
        exact Wp.ng (by decide) (Wp.ng (by decide) (Wp.ng (by decide) (Wp.ng (by decide) (Wp.ng (by decide) (Wp.ng (by decide) (Wp.ng (by decide) (Wp.ng (by decide) (Wp.ng (by decide) (Wp.ps rfl (Wp.ret rfl))))))))))
    · refine CallT.get (v := levR (L.1 0) (N.1 (x + 95 + 8))) hI hc0 (Wp.eq ?_) (Wp.eq ?_)
      · unfold f_X10_count
        refine Wp.ng (by decide) (Wp.ng (by decide) (Wp.ng (by decide) (Wp.ng (by decide) (Wp.ng (by decide) (Wp.ng (by decide) (Wp.ng (by decide) (Wp.ng (by decide) (Wp.ng (by decide) (Wp.ng (by decide) (Wp.ps rfl (Wp.gp ha ?_)))))))))))
        rw [hz]
        exact Wp.cl v1 (Wp.ret rfl)
      · unfold f_X11_count
        refine Wp.cl hr (Wp.j0 ?_)
        exact Wp.ng (by decide) (Wp.ng (by decide) (Wp.ng (by decide) (Wp.ng (by decide) (Wp.ng (by decide) (Wp.ng (by decide) (Wp.ng (by decide) (Wp.ng (by decide) (Wp.ng (by decide) (Wp.ng (by decide) (Wp.ps rfl (Wp.cl v2 (Wp.ret rfl))))))))))))
    · have q1 : M.1 (x + 19 + 1 + 5) 0 = N.1 (x + 95 + 8) 8 := hC.1.g8
      refine CallT.get (v := N.1 (x + 95 + 8) 8) hI hc0 (Wp.eq ?_) (Wp.eq ?_)
      · unfold f_X10_count
        refine Wp.ng (by decide) (Wp.ng (by decide) (Wp.ng (by decide) (Wp.ng (by decide) (Wp.ng (by decide) (Wp.ng (by decide) (Wp.ng (by decide) (Wp.ng (by decide) (Wp.ng (by decide) (Wp.ng (by decide) (Wp.ng (by decide) (Wp.ps rfl (?_))))))))))))
        rw [q1]
        exact Wp.ret rfl
      · unfold f_X11_count
        refine Wp.cl hr (Wp.j0 ?_)
        exact Wp.ng (by decide) (Wp.ng (by decide) (Wp.ng (by decide) (Wp.ng (by decide) (Wp.ng (by decide) (Wp.ng (by decide) (Wp.ng (by decide) (Wp.ng (by decide) (Wp.ng (by decide) (Wp.ng (by decide) (Wp.ng (by decide) (Wp.ps rfl (Wp.ret rfl))))))))))))
    · have q1 : M.1 (x + 19 + 1 + 5) 7 = N.1 (x + 95 + 8) 9 := hC.1.g9
      refine CallT.get (v := N.1 (x + 95 + 8) 9) hI hc0 (Wp.eq ?_) (Wp.eq ?_)
      · unfold f_X10_count
        refine Wp.ng (by decide) (Wp.ng (by decide) (Wp.ng (by decide) (Wp.ng (by decide) (Wp.ng (by decide) (Wp.ng (by decide) (Wp.ng (by decide) (Wp.ng (by decide) (Wp.ng (by decide) (Wp.ng (by decide) (Wp.ng (by decide) (Wp.ng (by decide) (Wp.ps rfl (?_)))))))))))))
        rw [q1]
        exact Wp.ret rfl
      · unfold f_X11_count
        refine Wp.cl hr (Wp.j0 ?_)
        exact Wp.ng (by decide) (Wp.ng (by decide) (Wp.ng (by decide) (Wp.ng (by decide) (Wp.ng (by decide) (Wp.ng (by decide) (Wp.ng (by decide) (Wp.ng (by decide) (Wp.ng (by decide) (Wp.ng (by decide) (Wp.ng (by decide) (Wp.ng (by decide) (Wp.ps rfl (Wp.ret rfl)))))))))))))
    · have q1 : M.1 (x + 19 + 1 + 5) 6 = N.1 (x + 95 + 8) 10 := hC.1.g10
      refine CallT.get (v := N.1 (x + 95 + 8) 10) hI hc0 (Wp.eq ?_) (Wp.eq ?_)
      · unfold f_X10_count
        refine Wp.ng (by decide) (Wp.ng (by decide) (Wp.ng (by decide) (Wp.ng (by decide) (Wp.ng (by decide) (Wp.ng (by decide) (Wp.ng (by decide) (Wp.ng (by decide) (Wp.ng (by decide) (Wp.ng (by decide) (Wp.ng (by decide) (Wp.ng (by decide) (Wp.ng (by decide) (Wp.ps rfl (?_))))))))))))))
        rw [q1]
        exact Wp.ret rfl
      · unfold f_X11_count
        refine Wp.cl hr (Wp.j0 ?_)
        exact Wp.ng (by decide) (Wp.ng (by decide) (Wp.ng (by decide) (Wp.ng (by decide) (Wp.ng (by decide) (Wp.ng (by decide) (Wp.ng (by decide) (Wp.ng (by decide) (Wp.ng (by decide) (Wp.ng (by decide) (Wp.ng (by decide) (Wp.ng (by decide) (Wp.ng (by decide) (Wp.ps rfl (Wp.ret rfl))))))))))))))
    · refine CallT.get (v := regR (L.1 0) (N.1 (x + 95 + 8))) hI hc0 (Wp.eq ?_) (Wp.eq ?_)
      · unfold f_X10_count
        refine Wp.ng (by decide) (Wp.ng (by decide) (Wp.ng (by decide) (Wp.ng (by decide) (Wp.ng (by decide) (Wp.ng (by decide) (Wp.ng (by decide) (Wp.ng (by decide) (Wp.ng (by decide) (Wp.ng (by decide) (Wp.ng (by decide) (Wp.ng (by decide) (Wp.ng (by decide) (Wp.ng (by decide) (Wp.ps rfl (Wp.gp ha ?_)))))))))))))))
        rw [hz]
        exact Wp.cl q1 (Wp.ret rfl)
      · unfold f_X11_count
        refine Wp.cl hr (Wp.j0 ?_)
        exact Wp.ng (by decide) (Wp.ng (by decide) (Wp.ng (by decide) (Wp.ng (by decide) (Wp.ng (by decide) (Wp.ng (by decide) (Wp.ng (by decide) (Wp.ng (by decide) (Wp.ng (by decide) (Wp.ng (by decide) (Wp.ng (by decide) (Wp.ng (by decide) (Wp.ng (by decide) (Wp.ng (by decide) (Wp.ps rfl (Wp.cl q2 (Wp.ret rfl))))))))))))))))
    · have q1 : M.1 (x + 19 + 1 + 5) 9 = N.1 (x + 95 + 8) 12 := hC.1.g12
      refine CallT.get (v := N.1 (x + 95 + 8) 12) hI hc0 (Wp.eq ?_) (Wp.eq ?_)
      · unfold f_X10_count
        refine Wp.ng (by decide) (Wp.ng (by decide) (Wp.ng (by decide) (Wp.ng (by decide) (Wp.ng (by decide) (Wp.ng (by decide) (Wp.ng (by decide) (Wp.ng (by decide) (Wp.ng (by decide) (Wp.ng (by decide) (Wp.ng (by decide) (Wp.ng (by decide) (Wp.ng (by decide) (Wp.ng (by decide) (Wp.ng (by decide) (Wp.ps rfl (?_))))))))))))))))
        rw [q1]
        exact Wp.ret rfl
      · unfold f_X11_count
        refine Wp.cl hr (Wp.j0 ?_)
        exact Wp.ng (by decide) (Wp.ng (by decide) (Wp.ng (by decide) (Wp.ng (by decide) (Wp.ng (by decide) (Wp.ng (by decide) (Wp.ng (by decide) (Wp.ng (by decide) (Wp.ng (by decide) (Wp.ng (by decide) (Wp.ng (by decide) (Wp.ng (by decide) (Wp.ng (by decide) (Wp.ng (by decide) (Wp.ng (by decide) (Wp.ps rfl (Wp.ret rfl))))))))))))))))
    · have q1 : M.1 (x + 19 + 1 + 5 + 4) 2 = N.1 (x + 95 + 8) 13 := hC.1.g13
      refine CallT.get (v := N.1 (x + 95 + 8) 13) hI hc0 (Wp.eq ?_) (Wp.eq ?_)
      · unfold f_X10_count
        refine Wp.ng (by decide) (Wp.ng (by decide) (Wp.ng (by decide) (Wp.ng (by decide) (Wp.ng (by decide) (Wp.ng (by decide) (Wp.ng (by decide) (Wp.ng (by decide) (Wp.ng (by decide) (Wp.ng (by decide) (Wp.ng (by decide) (Wp.ng (by decide) (Wp.ng (by decide) (Wp.ng (by decide) (Wp.ng (by decide) (Wp.ng (by decide) (Wp.ps rfl (?_)))))))))))))))))
        rw [q1]
        exact Wp.ret rfl
      · unfold f_X11_count
        refine Wp.cl hr (Wp.j0 ?_)
        exact Wp.ng (by decide) (Wp.ng (by decide) (Wp.ng (by decide) (Wp.ng (by decide) (Wp.ng (by decide) (Wp.ng (by decide) (Wp.ng (by decide) (Wp.ng (by decide) (Wp.ng (by decide) (Wp.ng (by decide) (Wp.ng (by decide) (Wp.ng (by decide) (Wp.ng (by decide) (Wp.ng (by decide) (Wp.ng (by decide) (Wp.ng (by decide) (Wp.ps rfl (Wp.ret rfl)))))))))))))))))
    · refine CallT.get (v := imin (N.1 (x + 95 + 8) 32) 128) hI hc0 (Wp.eq ?_) (Wp.eq ?_)
      · unfold f_X10_count
        exact Wp.ng (by decide) (Wp.ng (by decide) (Wp.ng (by decide) (Wp.ng (by decide) (Wp.ng (by decide) (Wp.ng (by decide) (Wp.ng (by decide) (Wp.ng (by decide) (Wp.ng (by decide) (Wp.ng (by decide) (Wp.ng (by decide) (Wp.ng (by decide) (Wp.ng (by decide) (Wp.ng (by decide) (Wp.ng (by decide) (Wp.ng (by decide) (Wp.ng (by decide) (Wp.ps rfl (Wp.cl k1 (Wp.ret rfl)))))))))))))))))))
      · unfold f_X11_count
        refine Wp.cl hr (Wp.j0 ?_)
        exact Wp.ng (by decide) (Wp.ng (by decide) (Wp.ng (by decide) (Wp.ng (by decide) (Wp.ng (by decide) (Wp.ng (by decide) (Wp.ng (by decide) (Wp.ng (by decide) (Wp.ng (by decide) (Wp.ng (by decide) (Wp.ng (by decide) (Wp.ng (by decide) (Wp.ng (by decide) (Wp.ng (by decide) (Wp.ng (by decide) (Wp.ng (by decide) (Wp.ng (by decide) (Wp.ps rfl (Wp.cl k2 (Wp.ret rfl)))))))))))))))))))
    · refine CallT.get (v := Int32.ofNat n) hI hc0 (Wp.eq ?_) (Wp.eq ?_)
      · unfold f_X10_count
        refine Wp.ng (by decide) (Wp.ng (by decide) (Wp.ng (by decide) (Wp.ng (by decide) (Wp.ng (by decide) (Wp.ng (by decide) (Wp.ng (by decide) (Wp.ng (by decide) (Wp.ng (by decide) (Wp.ng (by decide) (Wp.ng (by decide) (Wp.ng (by decide) (Wp.ng (by decide) (Wp.ng (by decide) (Wp.ng (by decide) (Wp.ng (by decide) (Wp.ng (by decide) (Wp.ng (by decide) (Wp.ps rfl (?_)))))))))))))))))))
        rw [c3.2.2.1]
        exact Wp.ret rfl
      · unfold f_X11_count
        refine Wp.cl hr (Wp.j0 ?_)
        refine Wp.ng (by decide) (Wp.ng (by decide) (Wp.ng (by decide) (Wp.ng (by decide) (Wp.ng (by decide) (Wp.ng (by decide) (Wp.ng (by decide) (Wp.ng (by decide) (Wp.ng (by decide) (Wp.ng (by decide) (Wp.ng (by decide) (Wp.ng (by decide) (Wp.ng (by decide) (Wp.ng (by decide) (Wp.ng (by decide) (Wp.ng (by decide) (Wp.ng (by decide) (Wp.ng (by decide) (Wp.ps rfl (?_)))))))))))))))))))
        rw [c1]
        exact Wp.ret rfl
    · refine CallT.get (v := Int32.ofNat nn) hI hc0 (Wp.eq ?_) (Wp.eq ?_)
      · unfold f_X10_count
        refine Wp.ng (by decide) (Wp.ng (by decide) (Wp.ng (by decide) (Wp.ng (by decide) (Wp.ng (by decide) (Wp.ng (by decide) (Wp.ng (by decide) (Wp.ng (by decide) (Wp.ng (by decide) (Wp.ng (by decide) (Wp.ng (by decide) (Wp.ng (by decide) (Wp.ng (by decide) (Wp.ng (by decide) (Wp.ng (by decide) (Wp.ng (by decide) (Wp.ng (by decide) (Wp.ng (by decide) (Wp.ng (by decide) (Wp.ps rfl (?_))))))))))))))))))))
        rw [c3.2.2.2.1]
        exact Wp.ret rfl
      · unfold f_X11_count
        refine Wp.cl hr (Wp.j0 ?_)
        refine Wp.ng (by decide) (Wp.ng (by decide) (Wp.ng (by decide) (Wp.ng (by decide) (Wp.ng (by decide) (Wp.ng (by decide) (Wp.ng (by decide) (Wp.ng (by decide) (Wp.ng (by decide) (Wp.ng (by decide) (Wp.ng (by decide) (Wp.ng (by decide) (Wp.ng (by decide) (Wp.ng (by decide) (Wp.ng (by decide) (Wp.ng (by decide) (Wp.ng (by decide) (Wp.ng (by decide) (Wp.ng (by decide) (Wp.ps rfl (?_))))))))))))))))))))
        rw [c2]
        exact Wp.ret rfl
    · refine CallT.get (v := Int32.ofNat kk) hI hc0 (Wp.eq ?_) (Wp.eq ?_)
      · unfold f_X10_count
        refine Wp.ng (by decide) (Wp.ng (by decide) (Wp.ng (by decide) (Wp.ng (by decide) (Wp.ng (by decide) (Wp.ng (by decide) (Wp.ng (by decide) (Wp.ng (by decide) (Wp.ng (by decide) (Wp.ng (by decide) (Wp.ng (by decide) (Wp.ng (by decide) (Wp.ng (by decide) (Wp.ng (by decide) (Wp.ng (by decide) (Wp.ng (by decide) (Wp.ng (by decide) (Wp.ng (by decide) (Wp.ng (by decide) (Wp.ng (by decide) (Wp.ps rfl (?_)))))))))))))))))))))
        rw [b2]
        exact Wp.ret rfl
      · unfold f_X11_count
        refine Wp.cl hr (Wp.j0 ?_)
        refine Wp.ng (by decide) (Wp.ng (by decide) (Wp.ng (by decide) (Wp.ng (by decide) (Wp.ng (by decide) (Wp.ng (by decide) (Wp.ng (by decide) (Wp.ng (by decide) (Wp.ng (by decide) (Wp.ng (by decide) (Wp.ng (by decide) (Wp.ng (by decide) (Wp.ng (by decide) (Wp.ng (by decide) (Wp.ng (by decide) (Wp.ng (by decide) (Wp.ng (by decide) (Wp.ng (by decide) (Wp.ng (by decide) (Wp.ng (by decide) (Wp.ps rfl (?_)))))))))))))))))))))
        rw [b3]
        exact Wp.ret rfl
    · have q : M.1 (x + 19 + 29) 0 = N.1 (x + 95 + 7) 0 := hst 0 (by decide)
      have ea : f_X10_at (x + 19 + 29) 3 (0 : Int32) M = some (M.1 (x + 19 + 29) 0, M) := at_nat (k := 0) (by decide) (by decide)
      refine CallT.get (v := N.1 (x + 95 + 7) 0) hI hc0 (Wp.eq ?_) (Wp.eq ?_)
      · unfold f_X10_count
        refine Wp.ng (by decide) (Wp.ng (by decide) (Wp.ng (by decide) (Wp.ng (by decide) (Wp.ng (by decide) (Wp.ng (by decide) (Wp.ng (by decide) (Wp.ng (by decide) (Wp.ng (by decide) (Wp.ng (by decide) (Wp.ng (by decide) (Wp.ng (by decide) (Wp.ng (by decide) (Wp.ng (by decide) (Wp.ng (by decide) (Wp.ng (by decide) (Wp.ng (by decide) (Wp.ng (by decide) (Wp.ng (by decide) (Wp.ng (by decide) (Wp.ng (by decide) (Wp.ps rfl (?_))))))))))))))))))))))
        refine Wp.cl ea ?_
        rw [q]
        exact Wp.ret rfl
      · unfold f_X11_count
        refine Wp.cl hr (Wp.j0 ?_)
        exact Wp.ng (by decide) (Wp.ng (by decide) (Wp.ng (by decide) (Wp.ng (by decide) (Wp.ng (by decide) (Wp.ng (by decide) (Wp.ng (by decide) (Wp.ng (by decide) (Wp.ng (by decide) (Wp.ng (by decide) (Wp.ng (by decide) (Wp.ng (by decide) (Wp.ng (by decide) (Wp.ng (by decide) (Wp.ng (by decide) (Wp.ng (by decide) (Wp.ng (by decide) (Wp.ng (by decide) (Wp.ng (by decide) (Wp.ng (by decide) (Wp.ng (by decide) (Wp.ps rfl (Wp.gi (by decide) (Wp.ret rfl)))))))))))))))))))))))
    · have q : M.1 (x + 19 + 29) 1 = N.1 (x + 95 + 7) 1 := hst 1 (by decide)
      have ea : f_X10_at (x + 19 + 29) 3 (1 : Int32) M = some (M.1 (x + 19 + 29) 1, M) := at_nat (k := 1) (by decide) (by decide)
      refine CallT.get (v := N.1 (x + 95 + 7) 1) hI hc0 (Wp.eq ?_) (Wp.eq ?_)
      · unfold f_X10_count
        refine Wp.ng (by decide) (Wp.ng (by decide) (Wp.ng (by decide) (Wp.ng (by decide) (Wp.ng (by decide) (Wp.ng (by decide) (Wp.ng (by decide) (Wp.ng (by decide) (Wp.ng (by decide) (Wp.ng (by decide) (Wp.ng (by decide) (Wp.ng (by decide) (Wp.ng (by decide) (Wp.ng (by decide) (Wp.ng (by decide) (Wp.ng (by decide) (Wp.ng (by decide) (Wp.ng (by decide) (Wp.ng (by decide) (Wp.ng (by decide) (Wp.ng (by decide) (Wp.ng (by decide) (Wp.ps rfl (?_)))))))))))))))))))))))
        refine Wp.cl ea ?_
        rw [q]
        exact Wp.ret rfl
      · unfold f_X11_count
        refine Wp.cl hr (Wp.j0 ?_)
        exact Wp.ng (by decide) (Wp.ng (by decide) (Wp.ng (by decide) (Wp.ng (by decide) (Wp.ng (by decide) (Wp.ng (by decide) (Wp.ng (by decide) (Wp.ng (by decide) (Wp.ng (by decide) (Wp.ng (by decide) (Wp.ng (by decide) (Wp.ng (by decide) (Wp.ng (by decide) (Wp.ng (by decide) (Wp.ng (by decide) (Wp.ng (by decide) (Wp.ng (by decide) (Wp.ng (by decide) (Wp.ng (by decide) (Wp.ng (by decide) (Wp.ng (by decide) (Wp.ng (by decide) (Wp.ps rfl (Wp.gi (by decide) (Wp.ret rfl))))))))))))))))))))))))
    · have q : M.1 (x + 19 + 29) 2 = N.1 (x + 95 + 7) 2 := hst 2 (by decide)
      have ea : f_X10_at (x + 19 + 29) 3 (2 : Int32) M = some (M.1 (x + 19 + 29) 2, M) := at_nat (k := 2) (by decide) (by decide)
      refine CallT.get (v := N.1 (x + 95 + 7) 2) hI hc0 (Wp.eq ?_) (Wp.eq ?_)
      · unfold f_X10_count
        refine Wp.ng (by decide) (Wp.ng (by decide) (Wp.ng (by decide) (Wp.ng (by decide) (Wp.ng (by decide) (Wp.ng (by decide) (Wp.ng (by decide) (Wp.ng (by decide) (Wp.ng (by decide) (Wp.ng (by decide) (Wp.ng (by decide) (Wp.ng (by decide) (Wp.ng (by decide) (Wp.ng (by decide) (Wp.ng (by decide) (Wp.ng (by decide) (Wp.ng (by decide) (Wp.ng (by decide) (Wp.ng (by decide) (Wp.ng (by decide) (Wp.ng (by decide) (Wp.ng (by decide) (Wp.ng (by decide) (Wp.ps rfl (?_))))))))))))))))))))))))
        refine Wp.cl ea ?_
        rw [q]
        exact Wp.ret rfl
      · unfold f_X11_count
        refine Wp.cl hr (Wp.j0 ?_)
        exact Wp.ng (by decide) (Wp.ng (by decide) (Wp.ng (by decide) (Wp.ng (by decide) (Wp.ng (by decide) (Wp.ng (by decide) (Wp.ng (by decide) (Wp.ng (by decide) (Wp.ng (by decide) (Wp.ng (by decide) (Wp.ng (by decide) (Wp.ng (by decide) (Wp.ng (by decide) (Wp.ng (by decide) (Wp.ng (by decide) (Wp.ng (by decide) (Wp.ng (by decide) (Wp.ng (by decide) (Wp.ng (by decide) (Wp.ng (by decide) (Wp.ng (by decide) (Wp.ng (by decide) (Wp.ng (by decide) (Wp.ps rfl (Wp.gi (by decide) (Wp.ret rfl)))))))))))))))))))))))))
  · refine CallT.err (e := 0) (k := 1) hI (Wp.eq ?_) (Wp.eq ?_) rfl
    · unfold f_X10_count
      exact Wp.ps (by omega) (Wp.ret rfl)
    · unfold f_X11_count
      exact Wp.cl hr (Wp.j0 (Wp.ps (by omega) (Wp.cl e_fail (Wp.ret rfl))))
