/-! spans -/
theorem lr_un {t : Nat} {x1 x2 k4 k5 k6 : Int32} {M : Mem} (hk : ¬ k6 < -1) (hu : k6 < 0 ∨ (¬ k6 < 0 ∧ f_X4_latestIsFilled t k6 M = some (0, M))) : l_X4_longRows_13 t x1 x2 k4 k5 k6 M = if k5 < x1 then some (.inl (k4, 0, k6 + -1, M)) else if k4 = x2 then some (.inr (k5, M)) else some (.inl (k4 + 1, 0, k6 + -1, M)) := by
  have fin : Wp (l_X4_longRows_13 t x1 x2 k4 k5 k6 M) (fun q => some q = if k5 < x1 then some (.inl (k4, 0, k6 + -1, M)) else if k4 = x2 then some (.inr (k5, M)) else some (.inl (k4 + 1, 0, k6 + -1, M))) := by
    have tail : Wp (if k5 < x1 then (some (.inl (k4, (0 : Int32), k6 + -1, M)) : Option ((Int32 × Int32 × Int32 × Mem) ⊕ (Int32 × Mem))) else if k4 = x2 then some (.inr (k5, M)) else some (.inl (k4 + 1, 0, k6 + -1, M))) (fun q => some q = if k5 < x1 then some (.inl (k4, 0, k6 + -1, M)) else if k4 = x2 then some (.inr (k5, M)) else some (.inl (k4 + 1, 0, k6 + -1, M))) := by
      by_cases g1 : k5 < x1
      · rw [if_pos g1]
        exact Wp.ret rfl
      · rw [if_neg g1]
        by_cases g2 : k4 = x2
        · rw [if_pos g2]
          exact Wp.ret rfl
        · rw [if_neg g2]
          exact Wp.ret rfl
    unfold l_X4_longRows_13
    refine Wp.ng hk (Wp.j3 (Wp.j1 ?_))
    rcases hu with g | ⟨g, e⟩
    · exact Wp.ps g (Wp.j1 tail)
    · exact Wp.ng g (Wp.cl e (Wp.ps rfl (Wp.j1 tail)))
  obtain ⟨q, h1, h2⟩ := fin
  exact h1.trans h2
theorem lr_fi {t : Nat} {x1 x2 k4 k5 k6 : Int32} {M : Mem} (hk : ¬ k6 < -1) (h0 : ¬ k6 < 0) (e : f_X4_latestIsFilled t k6 M = some (1, M)) : l_X4_longRows_13 t x1 x2 k4 k5 k6 M = some (.inl (k4, k5 + 1, k6 + -1, M)) := by
  refine Wp.eq ?_
  unfold l_X4_longRows_13
  exact Wp.ng hk (Wp.j3 (Wp.j1 (Wp.ng h0 (Wp.cl e (Wp.ng (by decide) (Wp.nam (Wp.nam (Wp.ret rfl))))))))
theorem sp_un {t : Nat} {x1 x2 k7 k8 k9 : Int32} {N : Mem} {k : Nat} (hk : ¬ k9 < 0) (hu : k9 ≤ 0 ∨ (¬ k9 ≤ 0 ∧ k < 128 ∧ N.1 (t + 8) 6 - k9 - (N.1 (t + 8) 6 - k9) / 128 * 128 = Int32.ofNat k ∧ ¬ N.1 (t + 8) (537 + k) = 1)) : l_X11_spans_33 t x1 x2 N k7 k8 k9 = if k8 < x1 then some (.inl (k7, 0, k9 + -1)) else if k7 = x2 then some (.inr (k8, N)) else some (.inl (k7 + 1, 0, k9 + -1)) := by
  have fin : Wp (l_X11_spans_33 t x1 x2 N k7 k8 k9) (fun q => some q = if k8 < x1 then some (.inl (k7, 0, k9 + -1)) else if k7 = x2 then some (.inr (k8, N)) else some (.inl (k7 + 1, 0, k9 + -1))) := by
    have tail : Wp (if k8 < x1 then (some (.inl (k7, (0 : Int32), k9 + -1)) : Option ((Int32 × Int32 × Int32) ⊕ (Int32 × Mem))) else if k7 = x2 then some (.inr (k8, N)) else some (.inl (k7 + 1, 0, k9 + -1))) (fun q => some q = if k8 < x1 then some (.inl (k7, 0, k9 + -1)) else if k7 = x2 then some (.inr (k8, N)) else some (.inl (k7 + 1, 0, k9 + -1))) := by
      by_cases g1 : k8 < x1
      · rw [if_pos g1]
        exact Wp.ret rfl
      · rw [if_neg g1]
        by_cases g2 : k7 = x2
        · rw [if_pos g2]
          exact Wp.ret rfl
        · rw [if_neg g2]
          exact Wp.ret rfl
    unfold l_X11_spans_33
    refine Wp.ng hk (Wp.j1 (Wp.j0 ?_))
    rcases hu with g | ⟨g, q1, q2, q3⟩
    · exact Wp.ps g (Wp.j1 (Wp.ps rfl tail))
    · refine Wp.ng g ?_
      rw [q2]
      have e : (537 : Int32) + Int32.ofNat k = Int32.ofNat (537 + k) := i_ad' 537 k
      rw [e]
      refine Wp.gi (i_rng (by omega) (by decide)) ?_
      rw [i_nn (by omega)]
      exact Wp.ng q3 (Wp.j1 (Wp.ps rfl tail))
  obtain ⟨q, h1, h2⟩ := fin
  exact h1.trans h2
theorem sp_fi {t : Nat} {x1 x2 k7 k8 k9 : Int32} {N : Mem} {k : Nat} (hk : ¬ k9 < 0) (h0 : ¬ k9 ≤ 0) (q1 : k < 128) (q2 : N.1 (t + 8) 6 - k9 - (N.1 (t + 8) 6 - k9) / 128 * 128 = Int32.ofNat k) (q3 : N.1 (t + 8) (537 + k) = 1) : l_X11_spans_33 t x1 x2 N k7 k8 k9 = some (.inl (k7, k8 + 1, k9 + -1)) := by
  refine Wp.eq ?_
  unfold l_X11_spans_33
  refine Wp.ng hk (Wp.j1 (Wp.j0 (Wp.ng h0 ?_)))
  rw [q2]
  have e : (537 : Int32) + Int32.ofNat k = Int32.ofNat (537 + k) := i_ad' 537 k
  rw [e]
  refine Wp.gi (i_rng (by omega) (by decide)) ?_
  rw [i_nn (by omega)]
  exact Wp.ps q3 (Wp.j1 (Wp.ng (by decide) (Wp.j1 (Wp.ng (by decide) (Wp.nam (Wp.ret rfl))))))
