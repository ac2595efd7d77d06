theorem call_spans {x : Nat} {L : LN} {M N0 N : Mem} {v u : Int32} (h : Rdy x L M N0 N) : CallT x κ2 M N (f_X10_spans x v u M) (f_X11_spans (x + 95) v u N0) := by
  obtain ⟨hr, hI, hc0⟩ := h
  obtain ⟨T, hT, hC⟩ := hI.sc
  obtain ⟨k1, k2⟩ := okept hC
  have hT2 := hT.2.1
  have e0 : (0 : Int32).toInt = 0 := rfl
  have e1 : (1 : Int32).toInt = 1 := rfl
  have e128 : (128 : Int32).toInt = 128 := rfl
  have z1 : (1 : Int64).toInt = 1 := rfl
  have z128 : (128 : Int64).toInt = 128 := rfl
  have hN := hC.2.2.2.2.1
  have p6 : 0 ≤ (N.1 (x + 95 + 8) 6).toInt ∧ (N.1 (x + 95 + 8) 6).toInt ≤ 100000000 := by
    unfold gN at hN
    omega
  have hb := ti_min (a := N.1 (x + 95 + 8) 6) (b := 128)
  rw [e128] at hb
  have hub : 0 ≤ (imin (N.1 (x + 95 + 8) 6) 128).toInt ∧ (imin (N.1 (x + 95 + 8) 6) 128).toInt ≤ 128 := by
    split at hb <;> omega
  have hs : (imin (N.1 (x + 95 + 8) 6) 128 - 1).toInt = (imin (N.1 (x + 95 + 8) 6) 128).toInt - 1 := by
    rw [ti_sub (by rw [e1]; omega) (by rw [e1]; omega), e1]
  by_cases hv : 1 ≤ v.toInt ∧ v.toInt ≤ 128
  · obtain ⟨d, hd⟩ : ∃ d : Nat, (imin (N.1 (x + 95 + 8) 6) 128).toInt = (d : Int) - 1 := ⟨((imin (N.1 (x + 95 + 8) 6) 128).toInt + 1).toNat, by omega⟩
    have hd1 : d ≤ 129 := by omega
    have hl : SpR M N (x + 95) (lop4 FU (l_X4_longRows_13 (x + 19 + 1 + 5 + 4) v u) 0 0 (imin (N.1 (x + 95 + 8) 6) 128 - 1) M) (lop3 FU (l_X11_spans_33 (x + 95) v u N) 0 0 (imin (N.1 (x + 95 + 8) 6) 128)) := by
      refine spans_loop (M := M) (N := N) (x1 := v) (x2 := u) hC p6.2 d FU FU 0 0 (imin (N.1 (x + 95 + 8) 6) 128 - 1) (imin (N.1 (x + 95 + 8) 6) 128) hd ?_ ?_ ?_ ?_ ?_ ?_
      · rw [hs, hd]; omega
      · rw [hd]; omega
      · unfold FU; omega
      · unfold FU; omega
      · rw [e0]; omega
      · rw [e0]; omega
    have mk : ∀ w N', lop3 FU (l_X11_spans_33 (x + 95) v u N) 0 0 (imin (N.1 (x + 95 + 8) 6) 128) = some (w, N') → f_X11_spans (x + 95) v u N0 = some (w, N') := fun w N' e => by
      refine Wp.eq ?_
      unfold f_X11_spans
      exact Wp.cl hr (Wp.cl (e_in1 (by rw [z1, z128]; exact hv)) (Wp.ng (by decide) (Wp.cl k2 ⟨_, e, rfl⟩)))
    have ck : ∀ w, lop4 FU (l_X4_longRows_13 (x + 19 + 1 + 5 + 4) v u) 0 0 (imin (N.1 (x + 95 + 8) 6) 128 - 1) M = some (w, M) → f_X10_spans x v u M = if 0 ≤ w then some (.inl w, M) else some (.inr 0, M) := fun w e => by
      have e2 : f_X4_longRows (x + 19 + 1 + 5 + 4) v u M = some (w, M) := by
        refine Wp.eq ?_
        unfold f_X4_longRows
        exact Wp.cl k1 (Wp.nam ⟨_, e, rfl⟩)
      have fin : Wp (f_X10_spans x v u M) (fun q => some q = if 0 ≤ w then some (.inl w, M) else some (.inr 0, M)) := by
        unfold f_X10_spans
        refine Wp.j0 (Wp.ng (nlt_of (by rw [e1]; omega)) (Wp.ps (le_of (by rw [e128]; omega)) (Wp.cl e2 (Wp.br (fun g => Wp.ret ?_) (fun g => Wp.ret ?_)))))
        · rw [if_pos g]
        · rw [if_neg g]
      obtain ⟨q, h1, h2⟩ := fin
      exact h1.trans h2
    rcases hl with ⟨w, w0, w1, w2⟩ | ⟨w1, w2⟩
    · have a := ck _ w1
      rw [if_pos (show (0 : Int32) ≤ w from le_of (by rw [e0]; exact w0))] at a
      exact CallT.get hI hc0 a (mk _ _ w2)
    · have a := ck _ w1
      rw [if_neg (show ¬ (0 : Int32) ≤ -1 by decide)] at a
      exact CallT.err (e := 0) (k := 1) hI a (mk _ _ w2) rfl
  · refine CallT.err (e := 1) (k := 2) hI (Wp.eq ?_) (Wp.eq ?_) rfl
    · unfold f_X10_spans
      refine Wp.j0 (Wp.br (fun _ => Wp.ret rfl) (fun g1 => Wp.ng (nle_of ?_) (Wp.ret rfl)))
      have := Int32.le_iff_toInt_le.mp (nlt_le.mp g1)
      rw [e1] at this
      rw [e128]
      omega
    · unfold f_X11_spans
      exact Wp.cl hr (Wp.cl (e_in0 (by rw [z1, z128]; exact hv)) (Wp.ps rfl (Wp.cl e_fail (Wp.ret rfl))))
