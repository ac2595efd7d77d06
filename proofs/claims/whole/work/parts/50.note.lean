/-! note, forget, fault -/
def CallU (x : Nat) (M N : Mem) (fc fm : Option (Unit × Mem)) : Prop := ∃ M' N' L', fc = some ((), M') ∧ fm = some ((), N') ∧ Inv2 x L' M' N' ∧ FrC x M M' ∧ FrM x N N'
theorem SRn.notes {L : LN} {M M' : Mem} {s0 : Nat} {r past nin nlev nin' nlev' stat : Nat → Int32} {n nn nn' : Nat} (h : SRn L M s0 r past nin nlev stat n nn) (hM : ∀ b k, s0 ≤ b → b < s0 + 30 → ¬ (b = s0 ∧ k = 5) → ¬ b = s0 + 27 → ¬ b = s0 + 28 → M'.1 b k = M.1 b k) (h8 : nn' ≤ 8) (h5 : M'.1 s0 5 = Int32.ofNat nn') (hv : ∀ j, j < nn' → M'.1 (s0 + 27) j = nin' j ∧ M'.1 (s0 + 28) j = nlev' j) : SRn L M' s0 r past nin' nlev' stat n nn' := by
  obtain ⟨a1, a2, a3, a4, a5, ⟨T, a6⟩, ⟨T0, a7⟩, a8, a9, a10⟩ := h
  refine ⟨a1, h8, by rw [hM _ _ (by omega) (by omega) (by omega) (by omega) (by omega)]; exact a3, h5, fun j hj => by rw [hM _ _ (by omega) (by omega) (by omega) (by omega) (by omega), hM _ _ (by omega) (by omega) (by omega) (by omega) (by omega)]; exact a5 j hj, ⟨T, a6.lv (Lv.of fun d j hd => hM _ _ (by omega) (by omega) (by omega) (by omega) (by omega))⟩, ⟨T0, a7.lv (Lv.of fun d j hd => hM _ _ (by omega) (by omega) (by omega) (by omega) (by omega))⟩, fun j hj => by rw [hM _ _ (by omega) (by omega) (by omega) (by omega) (by omega), hM _ _ (by omega) (by omega) (by omega) (by omega) (by omega)]; exact a8 j hj, hv, fun j hj => by rw [hM _ _ (by omega) (by omega) (by omega) (by omega) (by omega)]; exact a10 j hj⟩
theorem call_fault {x : Nat} {L : LN} {M N0 N : Mem} (h : Rdy x L M N0 N) : CallV x M N (f_X10_fault x M) (f_X11_fault (x + 95) N0) := by
  obtain ⟨hr, hI, hc0⟩ := h
  refine ⟨N.1 (x + 95) 21, M, N, L, ?_, Wp.eq ?_, hI, FrC.rf, GS.rf.fr⟩
  · unfold f_X10_fault
    rw [hI.2.2.2.2.2.2.2.2.1]
  · unfold f_X11_fault
    exact Wp.cl hr (Wp.ret rfl)
theorem call_forget {x : Nat} {L : LN} {M N0 N : Mem} (h : Rdy x L M N0 N) : CallU x M N (f_X10_forget x M) (f_X11_forget (x + 95) N0) := by
  obtain ⟨hr, hI, hc0⟩ := h
  obtain ⟨n, nn, c1, c2, c3⟩ := hI.2.2.2.2.2.2.2.2.2.1
  have f : FS x M (wi M (x + 19) 5 0) := FS.wr (by omega)
  have g : GS x N (wi N (x + 95) 32 0) := GS.wr (by omega)
  refine ⟨wi M (x + 19) 5 0, wi N (x + 95) 32 0, L, rfl, Wp.eq ?_, hI.now f g (hI.2.2.2.1.2.2.2.2.cg (wi_rwo (by omega)) (wi_rwo (by omega)) (wi_rwo (by omega))) (n := n) (nn := 0) (by rw [wi_sl (by omega)]; exact c1) wi_hit ?_, f.fr, g.fr⟩
  · unfold f_X11_forget
    exact Wp.cl hr (Wp.nam (Wp.ret rfl))
  · rw [wi_rwo (show ¬ x + 95 + 8 = x + 95 by omega), wi_rwo (show ¬ x + 95 + 15 = x + 95 by omega), wi_rwo (show ¬ x + 95 + 18 = x + 95 by omega), wi_rwo (show ¬ x + 95 + 19 = x + 95 by omega), wi_rwo (show ¬ x + 95 + 7 = x + 95 by omega)]
    refine c3.notes (fun b k h1 h2 h3 h4 h5 => ?_) (Nat.zero_le _) wi_hit (fun j hj => absurd hj (Nat.not_lt_zero _))
    simp only [wi]
    rw [if_neg h3]
theorem Inv2.refN {x : Nat} {L : LN} {M N : Mem} {v : Int32} {fc fm : Option (Int32 × Mem)} (h : Inv2 x L M N) (e1 : fc = some (v, wi M (x + 19 + 29) 2 (M.1 (x + 19 + 29) 2 + 1))) (e2 : fm = some (v, wi N (x + 95 + 7) 2 (N.1 (x + 95 + 7) 2 + 1))) : CallV x M N fc fm := ⟨v, _, _, L, e1, e2, h.refuse (by decide), (FS.wr (by omega)).fr, (GS.wr (by omega)).fr⟩
theorem call_note {x : Nat} {L : LN} {M N0 N : Mem} {u v : Int32} (h : Rdy x L M N0 N) : CallV x M N (f_X10_note x u v M) (f_X11_note (x + 95) u v N0) := by
  obtain ⟨hr, hI, hc0⟩ := h
  obtain ⟨n, nn, c1, c2, c3⟩ := hI.2.2.2.2.2.2.2.2.2.1
  have a2 := c3.2.1
  have a4 := c3.2.2.2.1
  have e0 : (0 : Int32).toInt = 0 := rfl
  have e60 : (60 : Int32).toInt = 60 := rfl
  have e999 : (999 : Int32).toInt = 999 := rfl
  have z0 : (0 : Int64).toInt = 0 := rfl
  have z60 : (60 : Int64).toInt = 60 := rfl
  have z999 : (999 : Int64).toInt = 999 := rfl
  have s1 : ∀ (K : Int32 → Mem → Option (Int32 × Mem)) (P : Int32 × Mem → Prop), Wp (K 1 N) P → (0 ≤ u.toInt ∧ u.toInt ≤ 60) → Wp (bd (f_X11_isIn u.toInt64 (0 : Int64) (60 : Int64) N) K) P := fun K P k g => Wp.cl (e_in1 (by rw [z0, z60]; exact g)) k
  have s0 : ∀ (K : Int32 → Mem → Option (Int32 × Mem)) (P : Int32 × Mem → Prop), Wp (K 0 N) P → ¬ (0 ≤ u.toInt ∧ u.toInt ≤ 60) → Wp (bd (f_X11_isIn u.toInt64 (0 : Int64) (60 : Int64) N) K) P := fun K P k g => Wp.cl (e_in0 (by rw [z0, z60]; exact g)) k
  have t1 : ∀ (K : Int32 → Mem → Option (Int32 × Mem)) (P : Int32 × Mem → Prop), Wp (K 1 N) P → (0 ≤ v.toInt ∧ v.toInt ≤ 999) → Wp (bd (f_X11_isIn v.toInt64 (0 : Int64) (999 : Int64) N) K) P := fun K P k g => Wp.cl (e_in1 (by rw [z0, z999]; exact g)) k
  have t0 : ∀ (K : Int32 → Mem → Option (Int32 × Mem)) (P : Int32 × Mem → Prop), Wp (K 0 N) P → ¬ (0 ≤ v.toInt ∧ v.toInt ≤ 999) → Wp (bd (f_X11_isIn v.toInt64 (0 : Int64) (999 : Int64) N) K) P := fun K P k g => Wp.cl (e_in0 (by rw [z0, z999]; exact g)) k
  by_cases hg : nn < 8 ∧ (0 ≤ u.toInt ∧ u.toInt ≤ 60) ∧ (0 ≤ v.toInt ∧ v.toInt ≤ 999)
  · obtain ⟨g1, g2, g3⟩ := hg
    generalize hM' : wi (wi (wi M (x + 19 + 27) nn u) (x + 19 + 28) nn v) (x + 19) 5 (Int32.ofNat (nn + 1)) = M'
    generalize hN' : wi (wi (wi N (x + 95 + 18) nn u) (x + 95 + 19) nn v) (x + 95) 32 (Int32.ofNat (nn + 1)) = N'
    have f : FS x M M' := by rw [← hM']; exact ((FS.wr (by omega)).tr (FS.wr (by omega))).tr (FS.wr (by omega))
    have g : GS x N N' := by rw [← hN']; exact ((GS.wr (by omega)).tr (GS.wr (by omega))).tr (GS.wr (by omega))
    have rN : ∀ b, ¬ b = x + 95 + 18 → ¬ b = x + 95 + 19 → ¬ b = x + 95 → N'.1 b = N.1 b := fun b h1 h2 h3 => by rw [← hN', wi_rwo h3, wi_rwo h2, wi_rwo h1]
    refine ⟨Int32.ofNat (nn + 1), M', N', L, Wp.eq ?_, Wp.eq ?_, hI.now f g (hI.2.2.2.1.2.2.2.2.cg (rN _ (by omega) (by omega) (by omega)) (rN _ (by omega) (by omega) (by omega)) (rN _ (by omega) (by omega) (by omega))) (n := n) (nn := nn + 1) (by rw [← hN', wi_sl (by omega), wi_rwo (by omega), wi_rwo (by omega)]; exact c1) (by rw [← hN', wi_hit]) ?_, f.fr, g.fr⟩
    · unfold f_X10_note
      refine Wp.j0 (Wp.ng (by rw [a4]; exact fun g => by have := (i_le (a := 8) (b := nn) (by decide) (by omega)).mp g; omega) (Wp.ng (nlt_of (by rw [e0]; omega)) (Wp.ng (nlt_of (by rw [e60]; omega)) (Wp.ng (nlt_of (by rw [e0]; omega)) (Wp.ps (le_of (by rw [e999]; omega)) ?_)))))
      have k1 : f_X10_put (x + 19 + 27) 8 (M.1 (x + 19) 5) u M = some ((), wi M (x + 19 + 27) nn u) := by rw [a4]; exact put_nat g1 (by decide)
      have k2 : f_X10_put (x + 19 + 28) 8 ((wi M (x + 19 + 27) nn u).1 (x + 19) 5) v (wi M (x + 19 + 27) nn u) = some ((), wi (wi M (x + 19 + 27) nn u) (x + 19 + 28) nn v) := by rw [wi_rwo (by omega), a4]; exact put_nat g1 (by decide)
      have k3 : f_X8_keepNote (x + 19) u v M = some (Int32.ofNat (nn + 1), M') := by
        refine Wp.eq ?_
        unfold f_X8_keepNote
        refine Wp.cl k1 (Wp.cl k2 (Wp.nam ?_))
        rw [wi_rwo (show ¬ x + 19 = x + 19 + 28 by omega), wi_rwo (show ¬ x + 19 = x + 19 + 27 by omega), a4, i_ad1, hM']
        refine Wp.ret ?_
        rw [← hM', wi_hit]
      exact Wp.cl k3 (Wp.ret rfl)
    · unfold f_X11_note
      refine Wp.cl hr (Wp.j1 (Wp.ng ?_ (s1 _ _ (Wp.ng (by decide) (t1 _ _ (Wp.ng (by decide) ?_) g3)) g2)))
      · rw [c2]
        intro e
        have := (i_le (a := 8) (b := nn) (by decide) (by omega)).mp (by rw [e]; decide)
        omega
      · rw [c2]
        refine Wp.gi (i_rng g1 (by decide)) (Wp.nam ?_)
        rw [i_nn (by omega), wi_rwo (show ¬ x + 95 = x + 95 + 18 by omega), c2]
        refine Wp.gi (i_rng g1 (by decide)) (Wp.nam ?_)
        rw [i_nn (by omega), wi_rwo (show ¬ x + 95 = x + 95 + 19 by omega), wi_rwo (show ¬ x + 95 = x + 95 + 18 by omega), c2, i_ad1, hN']
        refine Wp.nam (Wp.ret ?_)
        rw [← hN', wi_hit]
    · rw [rN (x + 95 + 8) (by omega) (by omega) (by omega), rN (x + 95 + 15) (by omega) (by omega) (by omega), rN (x + 95 + 7) (by omega) (by omega) (by omega)]
      refine c3.notes (fun b k h1 h2 h3 h4 h5 => ?_) (by omega) (by rw [← hM', wi_hit]) (fun j hj => ?_)
      · rw [← hM']
        simp only [wi]
        rw [if_neg h3, if_neg (by omega), if_neg (by omega)]
      · rw [← hM', ← hN', wi_rwo (show ¬ x + 19 + 27 = x + 19 by omega), wi_rwo (show ¬ x + 19 + 27 = x + 19 + 28 by omega), wi_rwo (show ¬ x + 19 + 28 = x + 19 by omega), wi_rwo (show ¬ x + 95 + 18 = x + 95 by omega), wi_rwo (show ¬ x + 95 + 18 = x + 95 + 19 by omega), wi_rwo (show ¬ x + 95 + 19 = x + 95 by omega)]
        by_cases e : j = nn
        · subst e
          exact ⟨by rw [wi_hit, wi_hit], by rw [wi_hit, wi_hit]⟩
        · rw [wi_sl e, wi_sl e, wi_sl e, wi_sl e, wi_rwo (show ¬ x + 19 + 28 = x + 19 + 27 by omega), wi_rwo (show ¬ x + 95 + 19 = x + 95 + 18 by omega)]
          exact c3.2.2.2.2.2.2.2.2.1 j (by omega)
  · refine hI.refN (v := -1) (Wp.eq ?_) (Wp.eq ?_)
    · unfold f_X10_note
      refine Wp.j0 (Wp.br (fun _ => Wp.cl e_ref2 (Wp.ret rfl)) (fun g1 => Wp.br (fun _ => Wp.cl e_ref2 (Wp.ret rfl)) (fun g2 => Wp.br (fun _ => Wp.cl e_ref2 (Wp.ret rfl)) (fun g3 => Wp.br (fun _ => Wp.cl e_ref2 (Wp.ret rfl)) (fun g4 => Wp.br (fun g5 => ?_) (fun _ => Wp.cl e_ref2 (Wp.ret rfl)))))))
      exfalso
      have h2 := Int32.le_iff_toInt_le.mp (nlt_le.mp g2)
      have h3 := Int32.le_iff_toInt_le.mp (nlt_le.mp g3)
      have h4 := Int32.le_iff_toInt_le.mp (nlt_le.mp g4)
      have h5 := Int32.le_iff_toInt_le.mp g5
      rw [e0] at h2 h4
      rw [e60] at h3
      rw [e999] at h5
      rw [a4] at g1
      exact hg ⟨Nat.lt_of_not_le fun g => g1 ((i_le (a := 8) (b := nn) (by decide) (by omega)).mpr g), ⟨h2, h3⟩, h4, h5⟩
    · unfold f_X11_note
      refine Wp.cl hr (Wp.j1 (Wp.br (fun _ => Wp.cl e_mref2 (Wp.ret rfl)) (fun g1 => ?_)))
      by_cases g2 : 0 ≤ u.toInt ∧ u.toInt ≤ 60
      · refine s1 _ _ (Wp.ng (by decide) ?_) g2
        by_cases g3 : 0 ≤ v.toInt ∧ v.toInt ≤ 999
        · exfalso
          rw [c2] at g1
          have : nn ≠ 8 := fun e => g1 (by rw [e]; rfl)
          exact hg ⟨by omega, g2, g3⟩
        · exact t0 _ _ (Wp.ps rfl (Wp.cl e_mref2 (Wp.ret rfl))) g3
      · exact s0 _ _ (Wp.ps rfl (Wp.cl e_mref2 (Wp.ret rfl))) g2
