/-! turn, steps, note, forget -/
theorem CallT.refT {x : Nat} {κ : Nat → Int32} {L : LN} {M N : Mem} {v : Int32} {fc : Option ((Int32 ⊕ Nat) × Mem)} {fm : Option (Int32 × Mem)} (h : Inv2 x L M N) (hc : N.1 (x + 95) 2 = 0) (e1 : fc = some (.inl v, wi M (x + 19 + 29) 1 (M.1 (x + 19 + 29) 1 + 1))) (e2 : fm = some (v, wi N (x + 95 + 7) 1 (N.1 (x + 95 + 7) 1 + 1))) : CallT x κ M N fc fm := ⟨_, _, _, _, L, e1, e2, h.refuse (by decide), (FS.wr (by omega)).fr, (GS.wr (by omega)).fr, Or.inl ⟨rfl, by rw [wi_rwo (by omega)]; exact hc⟩⟩
theorem e_canTurn {a v : Int32} {M : Mem} : f_X10_canTurn a v M = some (if a = 0 then (if -99 ≤ v.toInt ∧ v.toInt ≤ 99 then 1 else 0) else if a = 1 then (if 0 ≤ v.toInt ∧ v.toInt ≤ 2 then 1 else 0) else (if 1 ≤ v.toInt ∧ v.toInt ≤ 64 then 1 else 0), M) := by
  have e99 : (99 : Int32).toInt = 99 := rfl
  have em : (-99 : Int32).toInt = -99 := rfl
  have e0 : (0 : Int32).toInt = 0 := rfl
  have e1 : (1 : Int32).toInt = 1 := rfl
  have e2 : (2 : Int32).toInt = 2 := rfl
  have e64 : (64 : Int32).toInt = 64 := rfl
  have rg : ∀ (lo hi : Int32) (l h : Int), lo.toInt = l → hi.toInt = h → (v < lo → ¬ (l ≤ v.toInt ∧ v.toInt ≤ h)) ∧ (¬ v < lo → hi < v → ¬ (l ≤ v.toInt ∧ v.toInt ≤ h)) ∧ (¬ v < lo → ¬ hi < v → (l ≤ v.toInt ∧ v.toInt ≤ h)) := fun lo hi l h a b => by
    refine ⟨fun g => ?_, fun _ g => ?_, fun g1 g2 => ?_⟩
    · have := Int32.lt_iff_toInt_lt.mp g; omega
    · have := Int32.lt_iff_toInt_lt.mp g; omega
    · have h1 := Int32.le_iff_toInt_le.mp (nlt_le.mp g1)
      have h2 := Int32.le_iff_toInt_le.mp (nlt_le.mp g2)
      omega
  refine Wp.eq ?_
  unfold f_X10_canTurn
  refine Wp.br (fun g => ?_) (fun g => ?_)
  · obtain ⟨r1, r2, r3⟩ := rg _ _ _ _ em e99
    rw [if_pos g]
    refine Wp.j1 (Wp.j0 (Wp.br (fun g1 => Wp.gp (Or.inl rfl) (Wp.ret ?_)) (fun g1 => Wp.br (fun g2 => Wp.gp (Or.inl rfl) (Wp.ret ?_)) (fun g2 => Wp.gp (Or.inr rfl) (Wp.ret ?_)))))
    · rw [if_neg (r1 g1)]
    · rw [if_neg (r2 g1 g2)]
    · rw [if_pos (r3 g1 g2)]
  · rw [if_neg g]
    refine Wp.j1 (Wp.br (fun h => ?_) (fun h => ?_))
    · obtain ⟨r1, r2, r3⟩ := rg _ _ _ _ e0 e2
      rw [if_pos h]
      refine Wp.j0 (Wp.br (fun g1 => Wp.gp (Or.inl rfl) (Wp.ret ?_)) (fun g1 => Wp.br (fun g2 => Wp.gp (Or.inl rfl) (Wp.ret ?_)) (fun g2 => Wp.gp (Or.inr rfl) (Wp.ret ?_))))
      · rw [if_neg (r1 g1)]
      · rw [if_neg (r2 g1 g2)]
      · rw [if_pos (r3 g1 g2)]
    · obtain ⟨r1, r2, r3⟩ := rg _ _ _ _ e1 e64
      rw [if_neg h]
      refine Wp.j0 (Wp.br (fun g1 => Wp.gp (Or.inl rfl) (Wp.ret ?_)) (fun g1 => Wp.br (fun g2 => Wp.gp (Or.inl rfl) (Wp.ret ?_)) (fun g2 => Wp.gp (Or.inr rfl) (Wp.ret ?_))))
      · rw [if_neg (r1 g1)]
      · rw [if_neg (r2 g1 g2)]
      · rw [if_pos (r3 g1 g2)]
theorem call_turn {x : Nat} {L : LN} {M N0 N : Mem} {what v : Int32} (h : Rdy x L M N0 N) : CallT x κ0 M N (f_X10_turn x what v M) (f_X11_turn (x + 95) what v N0) := by
  obtain ⟨hr, hI, hc0⟩ := h
  have ha := hI.at
  obtain ⟨T, hT, hC⟩ := hI.sc
  have e0 : (0 : Int32).toInt = 0 := rfl
  have e2 : (2 : Int32).toInt = 2 := rfl
  by_cases hw : 0 ≤ what.toInt ∧ what.toInt ≤ 2
  · have wc : what = 0 ∨ what = 1 ∨ what = 2 := by
      have h3 : what.toInt = 0 ∨ what.toInt = 1 ∨ what.toInt = 2 := by omega
      rcases h3 with h | h | h
      · exact Or.inl (Int32.toInt_inj.mp h)
      · exact Or.inr (Or.inl (Int32.toInt_inj.mp h))
      · exact Or.inr (Or.inr (Int32.toInt_inj.mp h))
    rcases wc with w | w | w <;> subst w
    · have hold : M.1 (x + 19 + 1 + 1) 0 = N.1 (x + 95 + 8) 27 := hC.1.g27
      have ht : f_X10_turnable x 0 M = some (N.1 (x + 95 + 8) 27, M) := by
        refine Wp.eq ?_
        unfold f_X10_turnable
        refine Wp.ps rfl (Wp.ret ?_)
        rw [hold]
      have hct := e_canTurn (a := 0) (v := v) (M := M)
      by_cases hg : (-99 ≤ v.toInt ∧ v.toInt ≤ 99) ∧ ¬ v = N.1 (x + 95 + 8) 27
      · obtain ⟨M', N', a1, ⟨N1, a2, a3⟩, a4, a5, a6, a7⟩ := turn_ok (num := v) hI (Or.inr (Or.inr (Or.inl ⟨rfl, rfl, rfl⟩))) (fun _ => hg.1) rfl
        refine ⟨.inl (N.1 (x + 95 + 8) 27), M', N.1 (x + 95 + 8) 27, N', L, Wp.eq ?_, Wp.eq ?_, a4, a5, a6, Or.inl ⟨rfl, by rw [a7]; exact hc0⟩⟩
        · unfold f_X10_turn
          refine Wp.j0 (Wp.ng (by decide) (Wp.ps (by decide) (Wp.cl ht (Wp.cl hct (Wp.j0 ?_)))))
          have hc1 : (if (0 : Int32) = 0 then (if -99 ≤ v.toInt ∧ v.toInt ≤ 99 then (1 : Int32) else 0) else if (0 : Int32) = 1 then (if 0 ≤ v.toInt ∧ v.toInt ≤ 2 then 1 else 0) else (if 1 ≤ v.toInt ∧ v.toInt ≤ 64 then 1 else 0)) = 1 := by
            simp [hg.1]
          rw [hc1]
          refine Wp.ng (by decide) (Wp.ng hg.2 (Wp.gp ha ?_))
          refine Wp.j1 (Wp.ps rfl ?_)
          exact Wp.cl a1 (Wp.ret rfl)
        · unfold f_X11_turn
          refine Wp.cl hr ?_
          refine Wp.ng (by decide) (Wp.ps rfl ?_)
          refine Wp.cl (e_turnTo1 (j := 27) (by decide) hg.1 hg.2 a2) ?_
          rw [← a3]
          exact Wp.ret rfl
      · refine CallT.refT (v := 10000) hI hc0 (Wp.eq ?_) (Wp.eq ?_)
        · unfold f_X10_turn
          refine Wp.j0 (Wp.ng (by decide) (Wp.ps (by decide) (Wp.cl ht (Wp.cl hct (Wp.j0 ?_)))))
          by_cases hq : -99 ≤ v.toInt ∧ v.toInt ≤ 99
          · have hc1 : (if (0 : Int32) = 0 then (if -99 ≤ v.toInt ∧ v.toInt ≤ 99 then (1 : Int32) else 0) else if (0 : Int32) = 1 then (if 0 ≤ v.toInt ∧ v.toInt ≤ 2 then 1 else 0) else (if 1 ≤ v.toInt ∧ v.toInt ≤ 64 then 1 else 0)) = 1 := by
              simp [hq]
            rw [hc1]
            exact Wp.ng (by decide) (Wp.ps (Decidable.not_not.mp fun g => hg ⟨hq, g⟩) (Wp.cl e_ref1 (Wp.ret rfl)))
          · have hc1 : (if (0 : Int32) = 0 then (if -99 ≤ v.toInt ∧ v.toInt ≤ 99 then (1 : Int32) else 0) else if (0 : Int32) = 1 then (if 0 ≤ v.toInt ∧ v.toInt ≤ 2 then 1 else 0) else (if 1 ≤ v.toInt ∧ v.toInt ≤ 64 then 1 else 0)) = 0 := by
              simp [hq]
            rw [hc1]
            exact Wp.ps rfl (Wp.cl e_ref1 (Wp.ret rfl))
        · unfold f_X11_turn
          refine Wp.cl hr ?_
          refine Wp.ng (by decide) (Wp.ps rfl ?_)
          refine Wp.cl (e_turnTo0 (L := L) (M := M) (j := 27) (by decide) ?_) (Wp.ret rfl)
          by_cases hq : -99 ≤ v.toInt ∧ v.toInt ≤ 99
          · exact Or.inr (Decidable.not_not.mp fun g => hg ⟨hq, g⟩)
          · exact Or.inl hq
    · have hold : M.1 (x + 19 + 1 + 5) 2 = N.1 (x + 95 + 8) 28 := hC.1.g28
      have ht : f_X10_turnable x 1 M = some (N.1 (x + 95 + 8) 28, M) := by
        refine Wp.eq ?_
        unfold f_X10_turnable
        refine Wp.ng (by decide) (Wp.j1 (Wp.ps rfl (Wp.ret ?_)))
        rw [hold]
      have hct := e_canTurn (a := 1) (v := v) (M := M)
      by_cases hg : (0 ≤ v.toInt ∧ v.toInt ≤ 2) ∧ ¬ v = N.1 (x + 95 + 8) 28
      · obtain ⟨M', N', a1, ⟨N1, a2, a3⟩, a4, a5, a6, a7⟩ := turn_ok (num := v) hI (Or.inr (Or.inr (Or.inr (Or.inl ⟨rfl, rfl, rfl⟩)))) (fun h => absurd h (by decide)) rfl
        refine ⟨.inl (N.1 (x + 95 + 8) 28), M', N.1 (x + 95 + 8) 28, N', L, Wp.eq ?_, Wp.eq ?_, a4, a5, a6, Or.inl ⟨rfl, by rw [a7]; exact hc0⟩⟩
        · unfold f_X10_turn
          refine Wp.j0 (Wp.ng (by decide) (Wp.ps (by decide) (Wp.cl ht (Wp.cl hct (Wp.j0 ?_)))))
          have hc1 : (if (1 : Int32) = 0 then (if -99 ≤ v.toInt ∧ v.toInt ≤ 99 then (1 : Int32) else 0) else if (1 : Int32) = 1 then (if 0 ≤ v.toInt ∧ v.toInt ≤ 2 then 1 else 0) else (if 1 ≤ v.toInt ∧ v.toInt ≤ 64 then 1 else 0)) = 1 := by
            simp [hg.1]
          rw [hc1]
          refine Wp.ng (by decide) (Wp.ng hg.2 (Wp.gp ha ?_))
          refine Wp.j1 (Wp.ng (by decide) (Wp.ps rfl ?_))
          exact Wp.cl a1 (Wp.ret rfl)
        · unfold f_X11_turn
          refine Wp.cl hr ?_
          refine Wp.ng (by decide) (Wp.ng (by decide) (Wp.ps rfl ?_))
          refine Wp.cl (e_turnTo1 (j := 28) (by decide) hg.1 hg.2 a2) ?_
          rw [← a3]
          exact Wp.ret rfl
      · refine CallT.refT (v := 10000) hI hc0 (Wp.eq ?_) (Wp.eq ?_)
        · unfold f_X10_turn
          refine Wp.j0 (Wp.ng (by decide) (Wp.ps (by decide) (Wp.cl ht (Wp.cl hct (Wp.j0 ?_)))))
          by_cases hq : 0 ≤ v.toInt ∧ v.toInt ≤ 2
          · have hc1 : (if (1 : Int32) = 0 then (if -99 ≤ v.toInt ∧ v.toInt ≤ 99 then (1 : Int32) else 0) else if (1 : Int32) = 1 then (if 0 ≤ v.toInt ∧ v.toInt ≤ 2 then 1 else 0) else (if 1 ≤ v.toInt ∧ v.toInt ≤ 64 then 1 else 0)) = 1 := by
              simp [hq]
            rw [hc1]
            exact Wp.ng (by decide) (Wp.ps (Decidable.not_not.mp fun g => hg ⟨hq, g⟩) (Wp.cl e_ref1 (Wp.ret rfl)))
          · have hc1 : (if (1 : Int32) = 0 then (if -99 ≤ v.toInt ∧ v.toInt ≤ 99 then (1 : Int32) else 0) else if (1 : Int32) = 1 then (if 0 ≤ v.toInt ∧ v.toInt ≤ 2 then 1 else 0) else (if 1 ≤ v.toInt ∧ v.toInt ≤ 64 then 1 else 0)) = 0 := by
              simp [hq]
            rw [hc1]
            exact Wp.ps rfl (Wp.cl e_ref1 (Wp.ret rfl))
        · unfold f_X11_turn
          refine Wp.cl hr ?_
          refine Wp.ng (by decide) (Wp.ng (by decide) (Wp.ps rfl ?_))
          refine Wp.cl (e_turnTo0 (L := L) (M := M) (j := 28) (by decide) ?_) (Wp.ret rfl)
          by_cases hq : 0 ≤ v.toInt ∧ v.toInt ≤ 2
          · exact Or.inr (Decidable.not_not.mp fun g => hg ⟨hq, g⟩)
          · exact Or.inl hq
    · have hold : M.1 (x + 19 + 1 + 5) 1 = N.1 (x + 95 + 8) 29 := hC.1.g29
      have ht : f_X10_turnable x 2 M = some (N.1 (x + 95 + 8) 29, M) := by
        refine Wp.eq ?_
        unfold f_X10_turnable
        refine Wp.ng (by decide) (Wp.j1 (Wp.ng (by decide) (Wp.ret ?_)))
        rw [hold]
      have hct := e_canTurn (a := 2) (v := v) (M := M)
      by_cases hg : (1 ≤ v.toInt ∧ v.toInt ≤ 64) ∧ ¬ v = N.1 (x + 95 + 8) 29
      · obtain ⟨M', N', a1, ⟨N1, a2, a3⟩, a4, a5, a6, a7⟩ := turn_ok (num := v) hI (Or.inr (Or.inr (Or.inr (Or.inr ⟨rfl, rfl, rfl⟩)))) (fun h => absurd h (by decide)) rfl
        refine ⟨.inl (N.1 (x + 95 + 8) 29), M', N.1 (x + 95 + 8) 29, N', L, Wp.eq ?_, Wp.eq ?_, a4, a5, a6, Or.inl ⟨rfl, by rw [a7]; exact hc0⟩⟩
        · unfold f_X10_turn
          refine Wp.j0 (Wp.ng (by decide) (Wp.ps (by decide) (Wp.cl ht (Wp.cl hct (Wp.j0 ?_)))))
          have hc1 : (if (2 : Int32) = 0 then (if -99 ≤ v.toInt ∧ v.toInt ≤ 99 then (1 : Int32) else 0) else if (2 : Int32) = 1 then (if 0 ≤ v.toInt ∧ v.toInt ≤ 2 then 1 else 0) else (if 1 ≤ v.toInt ∧ v.toInt ≤ 64 then 1 else 0)) = 1 := by
            simp [hg.1]
          rw [hc1]
          refine Wp.ng (by decide) (Wp.ng hg.2 (Wp.gp ha ?_))
          refine Wp.j1 (Wp.ng (by decide) (Wp.ng (by decide) ?_))
          exact Wp.cl a1 (Wp.ret rfl)
        · unfold f_X11_turn
          refine Wp.cl hr ?_
          refine Wp.ng (by decide) (Wp.ng (by decide) (Wp.ng (by decide) (Wp.ps rfl ?_)))
          refine Wp.cl (e_turnTo1 (j := 29) (by decide) hg.1 hg.2 a2) ?_
          rw [← a3]
          exact Wp.ret rfl
      · refine CallT.refT (v := 10000) hI hc0 (Wp.eq ?_) (Wp.eq ?_)
        · unfold f_X10_turn
          refine Wp.j0 (Wp.ng (by decide) (Wp.ps (by decide) (Wp.cl ht (Wp.cl hct (Wp.j0 ?_)))))
          by_cases hq : 1 ≤ v.toInt ∧ v.toInt ≤ 64
          · have hc1 : (if (2 : Int32) = 0 then (if -99 ≤ v.toInt ∧ v.toInt ≤ 99 then (1 : Int32) else 0) else if (2 : Int32) = 1 then (if 0 ≤ v.toInt ∧ v.toInt ≤ 2 then 1 else 0) else (if 1 ≤ v.toInt ∧ v.toInt ≤ 64 then 1 else 0)) = 1 := by
              simp [hq]
            rw [hc1]
            exact Wp.ng (by decide) (Wp.ps (Decidable.not_not.mp fun g => hg ⟨hq, g⟩) (Wp.cl e_ref1 (Wp.ret rfl)))
          · have hc1 : (if (2 : Int32) = 0 then (if -99 ≤ v.toInt ∧ v.toInt ≤ 99 then (1 : Int32) else 0) else if (2 : Int32) = 1 then (if 0 ≤ v.toInt ∧ v.toInt ≤ 2 then 1 else 0) else (if 1 ≤ v.toInt ∧ v.toInt ≤ 64 then 1 else 0)) = 0 := by
              simp [hq]
            rw [hc1]
            exact Wp.ps rfl (Wp.cl e_ref1 (Wp.ret rfl))
        · unfold f_X11_turn
          refine Wp.cl hr ?_
          refine Wp.ng (by decide) (Wp.ng (by decide) (Wp.ng (by decide) (Wp.ps rfl ?_)))
          refine Wp.cl (e_turnTo0 (L := L) (M := M) (j := 29) (by decide) ?_) (Wp.ret rfl)
          by_cases hq : 1 ≤ v.toInt ∧ v.toInt ≤ 64
          · exact Or.inr (Decidable.not_not.mp fun g => hg ⟨hq, g⟩)
          · exact Or.inl hq
  · refine CallT.err (e := 0) (k := 1) hI (Wp.eq ?_) (Wp.eq ?_) rfl
    · unfold f_X10_turn
      refine Wp.j0 (Wp.br (fun _ => Wp.ret rfl) (fun g => Wp.ng (nle_of ?_) (Wp.ret rfl)))
      have := Int32.le_iff_toInt_le.mp (nlt_le.mp g)
      rw [e0] at this
      rw [e2]
      omega
    · unfold f_X11_turn
      refine Wp.cl hr (Wp.ps (by omega) (Wp.cl e_fail (Wp.ret rfl)))
theorem call_steps {x : Nat} {L : LN} {M N0 N : Mem} {v : Int32} (h : Rdy x L M N0 N) : CallV x M N (f_X10_steps x v M) (f_X11_steps (x + 95) v N0) := by
  obtain ⟨hr, hI, hc0⟩ := h
  have ha := hI.at
  obtain ⟨T, hT, hC⟩ := hI.sc
  have hold : M.1 (x + 19 + 1) 0 = N.1 (x + 95 + 8) 0 := hC.1.g0
  have e1 : (1 : Int32).toInt = 1 := rfl
  have e50 : (50 : Int32).toInt = 50 := rfl
  have l1 : (1 : Int64).toInt = 1 := rfl
  have l50 : (50 : Int64).toInt = 50 := rfl
  have e20k : (20000 : Int32).toInt = 20000 := rfl
  have hT0 := hT.1
  have hT1 := hT.2.1
  obtain ⟨m0, hm0, hTr, _⟩ := hT.2.2
  by_cases hv : 1 ≤ v.toInt ∧ v.toInt ≤ 50
  · have hs : (N.1 (x + 95 + 8) 0 + v).toInt = T + v.toInt := by rw [ti_add (by omega) (by omega), hTr]
    by_cases hg : T + v.toInt ≤ 20000
    · have hk : v = Int32.ofNat v.toInt.toNat := nat_of (by omega)
      obtain ⟨n, nn, c1, c2, c3⟩ := hI.2.2.2.2.2.2.2.2.2.1
      obtain ⟨N1, past', k1, k2, k3⟩ := keep_ok c3.1 c1
      have gN : ∀ b a, ¬ b = x + 95 + 15 → ¬ (b = x + 95 ∧ a = 31) → N1.1 b a = N.1 b a := fun b a h1 h2 => by
        rw [k2]
        simp only [wi]
        rw [if_neg h2, rset_ne h1]
      have row1 : ∀ b, ¬ b = x + 95 + 15 → ¬ b = x + 95 → N1.1 b = N.1 b := fun b h1 h2 => funext fun a => gN b a h1 (by omega)
      have hE1 : EnvM (x + 95) N1 L := hI.2.2.2.1.cg (fun b k hb => gN b k (by omega) (by omega)) (hI.2.2.2.1.2.2.2.2.cg (row1 _ (by omega) (by omega)) (row1 _ (by omega) (by omega)) (row1 _ (by omega) (by omega)))
      have p24 : N1.1 (x + 95) 24 = L.1 2 := by rw [gN _ _ (by omega) (by omega)]; exact hI.2.2.2.2.1
      have p25 : N1.1 (x + 95) 25 = L.1 3 := by rw [gN _ _ (by omega) (by omega)]; exact hI.2.2.2.2.2.1
      have p29 : N1.1 (x + 95) 29 = 0 := by rw [gN _ _ (by omega) (by omega)]; exact hI.2.2.2.2.2.2.1
      have run : ∀ c T', W0 L T' c (N.1 (x + 95 + 8)) → ∃ N2, f_X11_goOn (x + 95) v N1 = some ((), N2) ∧ VM (x + 95) N1 N2 ∧ EnvM (x + 95) N2 L ∧ N2.1 (x + 95) 29 = 0 ∧ W0 L (T + v.toInt) (itL L v.toInt.toNat c) (N2.1 (x + 95 + 8)) := by
        intro c T' hc
        have hTT : T' = T := by
          obtain ⟨_, _, q, _⟩ := hc.2.2
          rw [← q, hTr]
        subst hTT
        obtain ⟨M', N2, g1, g2, g3, g4, g5, g6, g7, _⟩ := sim_go (w := x + 19 + 1) (rr := M.2.2 0) (t := x + 95) (k := v.toInt.toNat) (M := M) (N := N1) (L := L) (p := L.1 2) (i := L.1 3) (c := c) (T := T') hI.1 (ha.ow (by omega)) (by omega) hT0 (by omega) hI.2.2.1 hE1 p24 p25 (by rw [row1 (x + 95 + 8) (by omega) (by omega), p29]; exact hc.2.2.sl _)
        rw [← hk] at g3
        have s0 := g7 p29
        rw [s0] at g6
        have et : T' + ((v.toInt.toNat : Nat) : Int) = T' + v.toInt := by omega
        rw [et] at g6
        exact ⟨N2, g3, g4, g5, s0, by omega, by omega, g6.sl 0⟩
      obtain ⟨N2, r1, r2, r3, r4, r5⟩ := run _ _ hT
      have hst : StR L 0 v (N.1 (x + 95 + 8)) (N2.1 (x + 95 + 8)) := fun c T' hc => by
        obtain ⟨N2', q1, _, _, _, q5⟩ := run c T' hc
        rw [r1] at q1
        injection q1 with q1
        injection q1 with _ q1
        subst q1
        refine ⟨T + v.toInt, ?_⟩
        unfold actC
        rw [if_pos rfl]
        exact q5
      obtain ⟨M', e, f, s⟩ := act_cl hI c3 hst (Or.inl ⟨rfl, hv⟩)
      have gs : GS x N N2 := ⟨fun b a hb => by
        by_cases e29 : b = x + 95 ∧ a = 29
        · rw [e29.1, e29.2, r4, hI.2.2.2.2.2.2.1]
        · rw [r2.1 _ _ (by omega) (by omega) (by omega)]
          exact gN b a (by omega) (by omega), by rw [r2.2, k2]; rfl⟩
      have e31 : N2.1 (x + 95) 31 = Int32.ofNat (if n < 40 then n + 1 else 40) := by rw [r2.1 _ _ (by omega) (by omega) (by omega), k2, wi_hit]
      have e32 : N2.1 (x + 95) 32 = Int32.ofNat nn := by rw [r2.1 _ _ (by omega) (by omega) (by omega), gN _ _ (by omega) (by omega)]; exact c2
      have e15 : N2.1 (x + 95 + 15) = past' := funext fun a => by rw [r2.1 _ _ (by omega) (by omega) (by omega), k2, wi_rwo (by omega), rset_rd]
      have rw2 : ∀ b, b = x + 95 + 18 ∨ b = x + 95 + 19 ∨ b = x + 95 + 7 → N2.1 b = N.1 b := fun b hb => funext fun a => by rw [r2.1 _ _ (by omega) (by omega) (by omega), gN _ _ (by omega) (by omega)]
      have hI' : Inv2 x L M' N2 := by
        refine hI.now f gs r3.2.2.2.2 e31 e32 ?_
        rw [rw2 (x + 95 + 18) (by omega), rw2 (x + 95 + 19) (by omega), rw2 (x + 95 + 7) (by omega), e15]
        rcases s with ⟨h1, h2⟩ | ⟨h1, h2⟩
        · rcases k3 with ⟨_, h4⟩ | ⟨h3, _⟩
          · rw [if_pos h1, h4]; exact h2
          · omega
        · rcases k3 with ⟨h3, _⟩ | ⟨_, h4⟩
          · omega
          · rw [if_neg (by omega), h4]; exact h2
      have hnew : M'.1 (x + 19 + 1) 0 = N2.1 (x + 95 + 8) 0 := by
        obtain ⟨_, _, hC'⟩ := hI'.sc
        exact hC'.1.g0
      refine ⟨N2.1 (x + 95 + 8) 0, M', N2, L, Wp.eq ?_, Wp.eq ?_, hI', f.fr, gs.fr⟩
      · unfold f_X10_steps
        refine Wp.j0 (Wp.ng (nlt_of (by rw [e1]; omega)) (Wp.ng (nlt_of (by rw [e50]; omega)) (Wp.ps (le_of (by rw [hold, hs, e20k]; omega)) (Wp.gp ha ?_))))
        refine Wp.cl e (Wp.ret ?_)
        rw [hnew]
      · unfold f_X11_steps
        refine Wp.cl hr (Wp.cl (e_in1 (by rw [l1, l50]; omega)) (Wp.j0 (Wp.ng (by decide) (Wp.ps (le_of (by rw [hs, e20k]; omega)) ?_))))
        exact Wp.cl k1 (Wp.cl r1 (Wp.ret rfl))
    · refine hI.refV (v := -1) (Wp.eq ?_) (Wp.eq ?_)
      · unfold f_X10_steps
        refine Wp.j0 (Wp.ng (nlt_of (by rw [e1]; omega)) (Wp.ng (nlt_of (by rw [e50]; omega)) (Wp.ng (nle_of (by rw [hold, hs, e20k]; omega)) ?_)))
        exact Wp.cl e_ref1 (Wp.ret rfl)
      · unfold f_X11_steps
        refine Wp.cl hr (Wp.cl (e_in1 (by rw [l1, l50]; omega)) (Wp.j0 (Wp.ng (by decide) (Wp.ng (nle_of (by rw [hs, e20k]; omega)) ?_))))
        exact Wp.cl e_mref1 (Wp.ret rfl)
  · refine hI.refV (v := -1) (Wp.eq ?_) (Wp.eq ?_)
    · unfold f_X10_steps
      refine Wp.j0 (Wp.br (fun _ => Wp.cl e_ref1 (Wp.ret rfl)) (fun g => Wp.ps (lt_of ?_) (Wp.cl e_ref1 (Wp.ret rfl))))
      have := Int32.le_iff_toInt_le.mp (nlt_le.mp g)
      rw [e1] at this
      rw [e50]
      omega
    · unfold f_X11_steps
      refine Wp.cl hr (Wp.cl (e_in0 (by rw [l1, l50]; omega)) (Wp.j0 (Wp.ps rfl ?_)))
      exact Wp.cl e_mref1 (Wp.ret rfl)
