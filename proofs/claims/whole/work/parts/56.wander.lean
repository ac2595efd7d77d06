/-! wander -/
theorem lop4_inl' {α0 α1 α2 α3 τ : Type} {fu : Nat} {b : α0 → α1 → α2 → α3 → Option ((α0 × α1 × α2 × α3) ⊕ τ)} {x x' : α0} {y y' : α1} {z z' : α2} {w w' : α3} (h : b x y z w = some (.inl (x', y', z', w'))) : lop4 (fu + 1) b x y z w = lop4 fu b x' y' z' w' := by
  simp only [lop4, h]
theorem lop4_inr' {α0 α1 α2 α3 τ : Type} {fu : Nat} {b : α0 → α1 → α2 → α3 → Option ((α0 × α1 × α2 × α3) ⊕ τ)} {x : α0} {y : α1} {z : α2} {w : α3} {t : τ} (h : b x y z w = some (.inr t)) : lop4 (fu + 1) b x y z w = some t := by
  simp only [lop4, h]
theorem width_loop {x u a m : Nat} {z p i : Int32} {A B C D : Int} {M N : Mem} (hC : Core z p i A B C D (getW M (x + 19 + 1)) (N.1 (x + 95 + 8))) (hD : D ≤ 100000000) (hu : imin (N.1 (x + 95 + 8) 32) 128 = Int32.ofNat u) (hu1 : u ≤ 128) (hm : a + m ≤ u) : ∀ (d k fc fm : Nat) (lo hi : Int32), k + d = a + m → d < fc → d < fm → ∃ v, lop4 fc (l_X4_widthOf_14 (x + 19 + 1 + 5 + 4) (Int32.ofNat a) (Int32.ofNat m)) hi lo (Int32.ofNat k) M = some (v, M) ∧ lop4 fm (l_X11_rangeOf_12 (x + 95) (Int32.ofNat a) (Int32.ofNat m)) lo hi (Int32.ofNat k) N = some (v, N) := by
  intro d
  induction d with
  | zero =>
    intro k fc fm lo hi hk hf1 hf2
    obtain ⟨fc, rfl⟩ : ∃ q, fc = q + 1 := ⟨fc - 1, by omega⟩
    obtain ⟨fm, rfl⟩ : ∃ q, fm = q + 1 := ⟨fm - 1, by omega⟩
    have g : Int32.ofNat a + Int32.ofNat m ≤ Int32.ofNat k := by
      rw [i_ad']
      exact (i_le (by omega) (by omega)).mpr (by omega)
    refine ⟨hi - lo, lop4_inr' (Wp.eq ?_), lop4_inr' (Wp.eq ?_)⟩
    · unfold l_X4_widthOf_14
      exact Wp.ps g (Wp.ret rfl)
    · unfold l_X11_rangeOf_12
      exact Wp.ps g (Wp.ret rfl)
  | succ d ih =>
    intro k fc fm lo hi hk hf1 hf2
    obtain ⟨fc, rfl⟩ : ∃ q, fc = q + 1 := ⟨fc - 1, by omega⟩
    obtain ⟨fm, rfl⟩ : ∃ q, fm = q + 1 := ⟨fm - 1, by omega⟩
    have g : ¬ Int32.ofNat a + Int32.ofNat m ≤ Int32.ofNat k := by
      rw [i_ad']
      exact fun g => by have := (i_le (by omega) (by omega)).mp g; omega
    have ek : (Int32.ofNat k).toInt = k := Int32.toInt_ofNat_of_lt (by omega)
    have eu : (Int32.ofNat u).toInt = u := Int32.toInt_ofNat_of_lt (by omega)
    obtain ⟨s, s1, s2, _⟩ := samp (v := Int32.ofNat k) hC hD (by omega) (by rw [hu]; omega)
    have e1 : l_X4_widthOf_14 (x + 19 + 1 + 5 + 4) (Int32.ofNat a) (Int32.ofNat m) hi lo (Int32.ofNat k) M = some (.inl (imax hi s, imin lo s, Int32.ofNat (k + 1), M)) := by
      refine Wp.eq ?_
      unfold l_X4_widthOf_14
      refine Wp.ng g (Wp.cl s1 (Wp.cl (e_max _ _ _) (Wp.cl (e_min _ _ _) (Wp.nam ?_))))
      rw [i_ad1]
      exact Wp.ret rfl
    have e2 : l_X11_rangeOf_12 (x + 95) (Int32.ofNat a) (Int32.ofNat m) lo hi (Int32.ofNat k) N = some (.inl (imin lo s, imax hi s, Int32.ofNat (k + 1), N)) := by
      refine Wp.eq ?_
      unfold l_X11_rangeOf_12
      refine Wp.ng g (Wp.cl s2 (Wp.cl (e_min _ _ _) (Wp.cl s2 (Wp.cl (e_max _ _ _) (Wp.nam ?_)))))
      rw [i_ad1]
      exact Wp.ret rfl
    rw [lop4_inl' e1, lop4_inl' e2]
    exact ih (k + 1) fc fm _ _ (by omega) (by omega) (by omega)
theorem width {x u a m : Nat} {z p i : Int32} {A B C D : Int} {M N : Mem} (hC : Core z p i A B C D (getW M (x + 19 + 1)) (N.1 (x + 95 + 8))) (hD : D ≤ 100000000) (hCC : C ≤ 99999999) (hu : imin (N.1 (x + 95 + 8) 32) 128 = Int32.ofNat u) (hu1 : u ≤ 128) (hm : a + m ≤ u) (h1 : 1 ≤ m) : ∃ v, f_X4_widthOf (x + 19 + 1 + 5 + 4) (Int32.ofNat a) (Int32.ofNat m) M = some (v, M) ∧ f_X11_rangeOf (x + 95) (Int32.ofNat a) (Int32.ofNat m) N = some (v, N) := by
  have ek : (Int32.ofNat a).toInt = a := Int32.toInt_ofNat_of_lt (by omega)
  have eu : (Int32.ofNat u).toInt = u := Int32.toInt_ofNat_of_lt (by omega)
  obtain ⟨s, s1, s2, s3, s4⟩ := samp (v := Int32.ofNat a) hC hD (by omega) (by rw [hu]; omega)
  obtain ⟨v, v1, v2⟩ := width_loop (M := M) (N := N) hC hD hu hu1 hm (m - 1) (a + 1) FU (FU - 1) s s (by omega) (by unfold FU; omega) (by unfold FU; omega)
  have g : ¬ Int32.ofNat a + Int32.ofNat m ≤ Int32.ofNat a := by
    rw [i_ad']
    exact fun g => by have := (i_le (by omega) (by omega)).mp g; omega
  have m1 : imin (100000000 : Int32) s = s := Int32.toInt_inj.mp (by
    have e : (100000000 : Int32).toInt = 100000000 := rfl
    rw [ti_min, e, if_pos (by omega)])
  have m2 : imax (-100000000 : Int32) s = s := Int32.toInt_inj.mp (by
    have e : (-100000000 : Int32).toInt = -100000000 := rfl
    rw [ti_max, e, if_pos (by omega)])
  refine ⟨v, Wp.eq ?_, ?_⟩
  · unfold f_X4_widthOf
    refine Wp.cl s1 (Wp.nam ?_)
    rw [i_ad1, v1]
    exact Wp.ret rfl
  · have e2 : l_X11_rangeOf_12 (x + 95) (Int32.ofNat a) (Int32.ofNat m) (100000000 : Int32) (-100000000 : Int32) (Int32.ofNat a) N = some (.inl (s, s, Int32.ofNat (a + 1), N)) := by
      refine Wp.eq ?_
      unfold l_X11_rangeOf_12
      refine Wp.ng g (Wp.cl s2 (Wp.cl (e_min _ _ _) (Wp.cl s2 (Wp.cl (e_max _ _ _) (Wp.nam ?_)))))
      rw [i_ad1, m1, m2]
      exact Wp.ret rfl
    have hF : FU = (FU - 1) + 1 := by unfold FU; omega
    unfold f_X11_rangeOf
    rw [hF, lop4_inl' e2]
    exact v2
theorem wander_loop {x u m : Nat} {z p i : Int32} {A B C D : Int} {M N : Mem} (hC : Core z p i A B C D (getW M (x + 19 + 1)) (N.1 (x + 95 + 8))) (hD : D ≤ 100000000) (hCC : C ≤ 99999999) (hu : imin (N.1 (x + 95 + 8) 32) 128 = Int32.ofNat u) (hu1 : u ≤ 128) (hm : m ≤ u) (h1 : 1 ≤ m) : ∀ (d k fc fm : Nat) (b : Int32), k + d = u - m + 1 → d < fc → d < fm → ∃ v, lop3 fc (l_X4_widest_24 (x + 19 + 1 + 5 + 4) (Int32.ofNat u) (Int32.ofNat m)) b (Int32.ofNat k) M = some (v, M) ∧ lop3 fm (l_X11_wander_48 (x + 95) (Int32.ofNat u) (Int32.ofNat m)) b (Int32.ofNat k) N = some (v, N) := by
  intro d
  induction d with
  | zero =>
    intro k fc fm b hk hf1 hf2
    obtain ⟨fc, rfl⟩ : ∃ q, fc = q + 1 := ⟨fc - 1, by omega⟩
    obtain ⟨fm, rfl⟩ : ∃ q, fm = q + 1 := ⟨fm - 1, by omega⟩
    have g : Int32.ofNat u < Int32.ofNat k + Int32.ofNat m := by
      rw [i_ad']
      exact (i_lt (by omega) (by omega)).mpr (by omega)
    refine ⟨b, lop3_inr (Wp.eq ?_), lop3_inr (Wp.eq ?_)⟩
    · unfold l_X4_widest_24
      exact Wp.ps g (Wp.ret rfl)
    · unfold l_X11_wander_48
      exact Wp.ps g (Wp.ret rfl)
  | succ d ih =>
    intro k fc fm b hk hf1 hf2
    obtain ⟨fc, rfl⟩ : ∃ q, fc = q + 1 := ⟨fc - 1, by omega⟩
    obtain ⟨fm, rfl⟩ : ∃ q, fm = q + 1 := ⟨fm - 1, by omega⟩
    have g : ¬ Int32.ofNat u < Int32.ofNat k + Int32.ofNat m := by
      rw [i_ad']
      exact fun g => by have := (i_lt (by omega) (by omega)).mp g; omega
    obtain ⟨s, s1, s2⟩ := width (M := M) (N := N) (a := k) (m := m) hC hD hCC hu hu1 (by omega) h1
    have e1 : l_X4_widest_24 (x + 19 + 1 + 5 + 4) (Int32.ofNat u) (Int32.ofNat m) b (Int32.ofNat k) M = some (.inl (imax b s, Int32.ofNat (k + 1), M)) := by
      refine Wp.eq ?_
      unfold l_X4_widest_24
      refine Wp.ng g (Wp.cl s1 (Wp.cl (e_max _ _ _) (Wp.nam ?_)))
      rw [i_ad1]
      exact Wp.ret rfl
    have e2 : l_X11_wander_48 (x + 95) (Int32.ofNat u) (Int32.ofNat m) b (Int32.ofNat k) N = some (.inl (imax b s, Int32.ofNat (k + 1), N)) := by
      refine Wp.eq ?_
      unfold l_X11_wander_48
      refine Wp.ng g (Wp.cl s2 (Wp.cl (e_max _ _ _) (Wp.nam ?_)))
      rw [i_ad1]
      exact Wp.ret rfl
    rw [lop3_inl e1, lop3_inl e2]
    exact ih (k + 1) fc fm _ (by omega) (by omega) (by omega)
theorem call_wander {x : Nat} {L : LN} {M N0 N : Mem} {v : Int32} (h : Rdy x L M N0 N) : CallT x κ1 M N (f_X10_wander x v M) (f_X11_wander (x + 95) v N0) := by
  obtain ⟨hr, hI, hc0⟩ := h
  obtain ⟨T, hT, hC⟩ := hI.sc
  obtain ⟨k1, k2⟩ := skept hC
  have hT2 := hT.2.1
  have e2 : (2 : Int32).toInt = 2 := rfl
  have e128 : (128 : Int32).toInt = 128 := rfl
  have z2 : (2 : Int64).toInt = 2 := rfl
  have z128 : (128 : Int64).toInt = 128 := rfl
  have hN := hC.2.2.2.2.1
  have p32 : 0 ≤ (N.1 (x + 95 + 8) 32).toInt := by
    unfold gN at hN
    omega
  have hb := ti_min (a := N.1 (x + 95 + 8) 32) (b := 128)
  rw [e128] at hb
  obtain ⟨u, hu, hu1⟩ : ∃ u : Nat, imin (N.1 (x + 95 + 8) 32) 128 = Int32.ofNat u ∧ u ≤ 128 := ⟨(imin (N.1 (x + 95 + 8) 32) 128).toInt.toNat, nat_of (by split at hb <;> omega), by split at hb <;> omega⟩
  by_cases hv : 2 ≤ v.toInt ∧ v.toInt ≤ 128
  · obtain ⟨k, hk, rfl⟩ : ∃ k : Nat, (2 ≤ k ∧ k ≤ 128) ∧ v = Int32.ofNat k := ⟨v.toInt.toNat, by omega, nat_of (by omega)⟩
    by_cases h2 : 2 ≤ u
    · have g2 : (2 : Int32) ≤ Int32.ofNat u := (i_le (a := 2) (b := u) (by decide) (by omega)).mpr h2
      obtain ⟨m, hm1, hm2, hm⟩ : ∃ m : Nat, 1 ≤ m ∧ m ≤ u ∧ imin (Int32.ofNat k) (Int32.ofNat u) = Int32.ofNat m := by
        unfold imin
        by_cases g : Int32.ofNat u < Int32.ofNat k
        · rw [if_pos g]
          exact ⟨u, by omega, Nat.le_refl _, rfl⟩
        · rw [if_neg g]
          exact ⟨k, by omega, Nat.le_of_not_lt fun e => g ((i_lt (by omega) (by omega)).mpr e), rfl⟩
      obtain ⟨w, w1, w2⟩ := wander_loop (M := M) (N := N) hC (by omega) (by omega) hu hu1 hm2 hm1 (u - m + 1) 0 FU FU 0 (by omega) (by unfold FU; omega) (by unfold FU; omega)
      refine CallT.get (v := w) hI hc0 (Wp.eq ?_) (Wp.eq ?_)
      · unfold f_X10_wander
        have e : f_X4_widest (x + 19 + 1 + 5 + 4) (Int32.ofNat k) M = some (w, M) := by
          refine Wp.eq ?_
          unfold f_X4_widest
          refine Wp.cl k1 ?_
          rw [hu]
          refine Wp.ps g2 (Wp.cl (e_min _ _ _) ?_)
          rw [hm]
          exact ⟨_, w1, rfl⟩
        exact Wp.j0 (Wp.ng (nlt_of (by rw [e2]; omega)) (Wp.ps (le_of (by rw [e128]; omega)) (Wp.cl e (Wp.ret rfl))))
      · unfold f_X11_wander
        refine Wp.cl hr (Wp.cl (e_in1 (by rw [z2, z128]; exact hv)) (Wp.ng (by decide) (Wp.cl k2 ?_)))
        rw [hu]
        refine Wp.ps g2 (Wp.cl (e_min _ _ _) ?_)
        rw [imin_comm, hm]
        exact ⟨_, w2, rfl⟩
    · have g2 : ¬ (2 : Int32) ≤ Int32.ofNat u := fun g => h2 ((i_le (a := 2) (b := u) (by decide) (by omega)).mp g)
      refine CallT.get (v := -1) hI hc0 (Wp.eq ?_) (Wp.eq ?_)
      · unfold f_X10_wander
        have e : f_X4_widest (x + 19 + 1 + 5 + 4) (Int32.ofNat k) M = some (-1, M) := by
          refine Wp.eq ?_
          unfold f_X4_widest
          refine Wp.cl k1 ?_
          rw [hu]
          exact Wp.ng g2 (Wp.ret rfl)
        exact Wp.j0 (Wp.ng (nlt_of (by rw [e2]; omega)) (Wp.ps (le_of (by rw [e128]; omega)) (Wp.cl e (Wp.ret rfl))))
      · unfold f_X11_wander
        refine Wp.cl hr (Wp.cl (e_in1 (by rw [z2, z128]; exact hv)) (Wp.ng (by decide) (Wp.cl k2 ?_)))
        rw [hu]
        exact Wp.ng g2 (Wp.ret rfl)
  · refine CallT.err (e := 1) (k := 1) hI (Wp.eq ?_) (Wp.eq ?_) rfl
    · unfold f_X10_wander
      refine Wp.j0 (Wp.br (fun _ => Wp.ret rfl) (fun g1 => Wp.ng (nle_of ?_) (Wp.ret rfl)))
      have := Int32.le_iff_toInt_le.mp (nlt_le.mp g1)
      rw [e2] at this
      rw [e128]
      omega
    · unfold f_X11_wander
      exact Wp.cl hr (Wp.cl (e_in0 (by rw [z2, z128]; exact hv)) (Wp.ps rfl (Wp.cl e_fail (Wp.ret rfl))))
