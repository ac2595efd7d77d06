/-! One STEP: class and model go on alike. -/
theorem clk_ok {z p i : Int32} {A B C D : Int} {m : Nat} {c : CW} {r : Nat → Int32} {s sl : Int32} (hA : A ≤ 100000000) (h : Rl z p i A B C D m c r s sl) (h22 : (r 22).toInt < 1000) : Rl z p i (A + 1099) B C D m (clkC c) (rup r 22 (r 22 + (1000 + r 27))) s sl ∧ (rup r 22 (r 22 + (1000 + r 27)) 22).toInt < 3000 := by
  obtain ⟨⟨k1, k2, k3, ⟨f1, f2, f3, f4, f5, f6, f7⟩, k5, k6, k7, k8, k9, k10, k11, k12, k13⟩, l2, l3, l4, l5, l6, l7⟩ := h
  have e1000 : (1000 : Int32).toInt = 1000 := rfl
  have a1 : (1000 + r 27).toInt = 1000 + (r 27).toInt := by rw [ti_add (by omega) (by omega), e1000]
  have a2 : (r 22 + (1000 + r 27)).toInt = (r 22).toInt + (1000 + (r 27).toInt) := by rw [ti_add (by omega) (by omega), a1]
  have fr : ∀ j, ¬ j = 22 → rup r 22 (r 22 + (1000 + r 27)) j = r j := fun j hj => rup_o hj
  have fc : ∀ d k, ¬ (d = 1 ∧ k = 1) → clkC c d k = c d k := fun d k hd => uc_o hd
  refine ⟨⟨⟨Sc.up (d := 1) (k := 1) (i := 22) k1 (by rw [k1.g22, k1.g27]) (by decide), by rw [fc _ _ (by omega)]; exact k2, by rw [fc _ _ (by omega)]; exact k3, ?_, k5.cg (fun j hj => fr j ?_), k6.cg (fun j hj => fr j (by omega)), ?_, k8.cg (fun j hj => fr j (by omega)), k9.cg (fun d k hd => fc d k (by omega)) (fun j a b => fr j (by omega)), k10.cg (fun k => fc _ _ (by omega)) (fun j hj => fr j (by omega)), k11.cg (fun k => fc _ _ (by omega)) (fun j hj => fr j (by omega)), k12.cg (fc _ _ (by omega)) (fr _ (by omega)) (fr _ (by omega)), k13.cg (fc _ _ (by omega)) (fun j hj => fr j ?_)⟩, by rw [fr 31 (by omega)]; exact l2, l3, l4.cg (fun d k hd _ => fc d k (by omega)) (fun j a b => fr j (by omega)), ?_, ?_, ?_⟩, by rw [rup_s, a2]; omega⟩
  · unfold gF
    rw [fr 1 (by omega), fr 2 (by omega), fr 27 (by omega), rup_s, a2]
    omega
  · simp at hj; omega
  · rw [fr 2 (by omega)]
    exact k7.cg (Int.le_refl _) (fun j hj => fr j (by omega))
  · simp at hj; omega
  · rw [fr 2 (by omega)]
    exact l5.cg (Int.le_refl _) (fun k hk => fr _ (by omega))
  · rw [fr 2 (by omega)]
    exact l6.cg (Int.le_refl _) (fr _ (by omega)) (fr _ (by omega))
  · rw [fc _ _ (by omega), fc _ _ (by omega)]
    exact l7
theorem tim_ok {z p i : Int32} {A B C D : Int} {c : CW} {r : Nat → Int32} (h : Core z p i A B C D c r) : Core z p i A B C D (uc c 0 0 (c 0 0 + 1)) (rup r 0 (r 0 + 1)) := by
  obtain ⟨k1, k2, k3, k4, k5, k6, k7, k8, k9, k10, k11, k12, k13⟩ := h
  have fr : ∀ j, ¬ j = 0 → rup r 0 (r 0 + 1) j = r j := fun j hj => rup_o hj
  have fc : ∀ d k, ¬ d = 0 → uc c 0 0 (c 0 0 + 1) d k = c d k := fun d k hd => uc_o (by omega)
  refine ⟨Sc.up (d := 0) (k := 0) (i := 0) k1 (by rw [k1.g0]) (by decide), by rw [fc _ _ (by omega)]; exact k2, by rw [fc _ _ (by omega)]; exact k3, k4.cg (fun j hj => fr j ?_), k5.cg (fun j hj => fr j ?_), k6.cg (fun j hj => fr j (by omega)), ?_, k8.cg (fun j hj => fr j (by omega)), k9.cg (fun d k hd => fc d k (by omega)) (fun j a b => fr j (by omega)), k10.cg (fun k => fc _ _ (by omega)) (fun j hj => fr j (by omega)), k11.cg (fun k => fc _ _ (by omega)) (fun j hj => fr j (by omega)), k12.cg (fc _ _ (by omega)) (fr _ (by omega)) (fr _ (by omega)), k13.cg (fc _ _ (by omega)) (fun j hj => fr j ?_)⟩
  · simp at hj; omega
  · simp at hj; omega
  · rw [fr 2 (by omega)]
    exact k7.cg (Int.le_refl _) (fun j hj => fr j (by omega))
  · simp at hj; omega
def jTim (t : Nat) (M7 : Mem) : Option (Unit × Mem) := nm (wi M7 (t + 8) 0 ((M7.1 (t + 8) 0) + (1 : Int32))) (fun M8 => some ((), M8))
theorem ply_sim {t rr : Nat} {M : Mem} {L : LN} {p i : Int32} {A B C D : Int} (hW : LWf L) (hA : A ≤ 100000000) (hB : B ≤ 100000000) (hL : LineC M rr L) : ∀ (n fu : Nat) (N : Mem) (c : CW), Core (L.1 0) p i A B C D c (N.1 (t + 8)) → EnvM t N L → (N.1 (t + 8) 8 = 2 → (N.1 (t + 8) 23).toInt < 1000 * (n + 1)) → n < fu → Wp (lop1 fu (l_X11_aStep_69 t (jTim t)) N) (fun q => ∃ N', q = ((), wi N' (t + 8) 0 (N'.1 (t + 8) 0 + 1)) ∧ Core (L.1 0) p i A B C D (ply2C M rr n c) (N'.1 (t + 8)) ∧ (∀ j, ¬ (j = 6 ∨ j = 7 ∨ j = 8 ∨ j = 12 ∨ j = 13 ∨ j = 14 ∨ j = 23 ∨ j = 30 ∨ 153 ≤ j) → N'.1 (t + 8) j = N.1 (t + 8) j) ∧ (N'.1 (t + 8) 8 = 2 → (N'.1 (t + 8) 23).toInt < 1000) ∧ VM t N N' ∧ EnvM t N' L ∧ N'.1 t 29 = N.1 t 29 ∧ (∀ d k, d ≤ 4 → ply2C M rr n c d k = c d k) ∧ (N.1 (t + 8) 7).toInt ≤ (N'.1 (t + 8) 7).toInt ∧ (N.1 (t + 8) 12).toInt ≤ (N'.1 (t + 8) 12).toInt) := by
  have e1000 : (1000 : Int32).toInt = 1000 := rfl
  intro n
  induction n with
  | zero =>
    intro fu N c h hE h23 hf
    obtain ⟨fu, rfl⟩ : ∃ q, fu = q + 1 := ⟨fu - 1, by omega⟩
    have fin : Wp (up (σ := Mem) (jTim t N)) (fun r => Sum.elim (fun q => Wp (lop1 fu (l_X11_aStep_69 t (jTim t)) q) (fun q => ∃ N', q = ((), wi N' (t + 8) 0 (N'.1 (t + 8) 0 + 1)) ∧ Core (L.1 0) p i A B C D (ply2C M rr 0 c) (N'.1 (t + 8)) ∧ (∀ j, ¬ (j = 6 ∨ j = 7 ∨ j = 8 ∨ j = 12 ∨ j = 13 ∨ j = 14 ∨ j = 23 ∨ j = 30 ∨ 153 ≤ j) → N'.1 (t + 8) j = N.1 (t + 8) j) ∧ (N'.1 (t + 8) 8 = 2 → (N'.1 (t + 8) 23).toInt < 1000) ∧ VM t N N' ∧ EnvM t N' L ∧ N'.1 t 29 = N.1 t 29 ∧ (∀ d k, d ≤ 4 → ply2C M rr 0 c d k = c d k) ∧ (N.1 (t + 8) 7).toInt ≤ (N'.1 (t + 8) 7).toInt ∧ (N.1 (t + 8) 12).toInt ≤ (N'.1 (t + 8) 12).toInt)) (fun q => ∃ N', q = ((), wi N' (t + 8) 0 (N'.1 (t + 8) 0 + 1)) ∧ Core (L.1 0) p i A B C D (ply2C M rr 0 c) (N'.1 (t + 8)) ∧ (∀ j, ¬ (j = 6 ∨ j = 7 ∨ j = 8 ∨ j = 12 ∨ j = 13 ∨ j = 14 ∨ j = 23 ∨ j = 30 ∨ 153 ≤ j) → N'.1 (t + 8) j = N.1 (t + 8) j) ∧ (N'.1 (t + 8) 8 = 2 → (N'.1 (t + 8) 23).toInt < 1000) ∧ VM t N N' ∧ EnvM t N' L ∧ N'.1 t 29 = N.1 t 29 ∧ (∀ d k, d ≤ 4 → ply2C M rr 0 c d k = c d k) ∧ (N.1 (t + 8) 7).toInt ≤ (N'.1 (t + 8) 7).toInt ∧ (N.1 (t + 8) 12).toInt ≤ (N'.1 (t + 8) 12).toInt) r) := ⟨_, rfl, ⟨N, rfl, h, fun _ _ => rfl, fun g => by have := h23 g; omega, VM.rf, hE, rfl, fun _ _ _ => rfl, Int.le_refl _, Int.le_refl _⟩⟩
    by_cases g8 : N.1 (t + 8) 8 = 2
    · refine Wp.l1 ?_
      unfold l_X11_aStep_69
      refine Wp.ps (Int32.lt_iff_toInt_lt.mpr (by have := h23 g8; rw [e1000]; omega)) ?_
      exact fin
    · refine Wp.l1 ?_
      unfold l_X11_aStep_69
      refine Wp.br (fun _ => fin) (fun _ => ?_)
      exact Wp.ng g8 fin
  | succ n ih =>
    intro fu N c h hE h23 hf
    obtain ⟨fu, rfl⟩ : ∃ q, fu = q + 1 := ⟨fu - 1, by omega⟩
    by_cases g8 : N.1 (t + 8) 8 = 2
    · by_cases glt : N.1 (t + 8) 23 < 1000
      · have hp : ply2C M rr (n + 1) c = c := by
          unfold ply2C
          rw [h.1.g8, if_pos g8, h.1.g23, if_pos glt]
        refine Wp.l1 ?_
        unfold l_X11_aStep_69
        refine Wp.ps glt ?_
        exact ⟨_, rfl, ⟨N, rfl, by rw [hp]; exact h, fun _ _ => rfl, fun _ => by have := Int32.lt_iff_toInt_lt.mp glt; rw [e1000] at this; exact this, VM.rf, hE, rfl, fun _ _ _ => by rw [hp], Int.le_refl _, Int.le_refl _⟩⟩
      · have hp : ply2C M rr (n + 1) c = ply2C M rr n (playC M rr c) := by
          conv => lhs; unfold ply2C
          rw [h.1.g8, if_pos g8, h.1.g23, if_neg glt]
        obtain ⟨w1, w2, w3, w4, w5, w6, w7⟩ := play_ok hW hA hB hL hE h g8 glt
        have hb : Wp (l_X11_aStep_69 t (jTim t) N) (fun q => q = .inl (rset N (t + 8) (playRn N t (L.1 0) (rup (N.1 (t + 8)) 23 (N.1 (t + 8) 23 - 1000))))) := by
          unfold l_X11_aStep_69
          refine Wp.ng glt ?_
          refine Wp.ps g8 ?_
          refine Wp.nam ?_
          rw [wi_rs (N := N)]
          refine Wp.cl w2 ?_
          exact Wp.ret rfl
        refine Wp.l1 (hb.mono ?_)
        rintro q rfl
        have hvm : VM t N (rset N (t + 8) (playRn N t (L.1 0) (rup (N.1 (t + 8)) 23 (N.1 (t + 8) 23 - 1000)))) := VM.rf.rs8
        have hE2 := hE.vm hvm (hE.2.2.2.2.cg (rset_nf (by omega)) (rset_nf (by omega)) (rset_nf (by omega)))
        refine (ih fu _ (playC M rr c) (by rw [rset_rf]; exact w1) hE2 (fun _ => by rw [rset_rd, w4]; have := h23 g8; omega) (by omega)).mono ?_
        rintro q ⟨N', rfl, u1, u2, u3, u4, u5, u7, u6, u8, u9⟩
        rw [rset_rf] at u8 u9
        refine ⟨N', rfl, by rw [hp]; exact u1, fun j hj => ?_, u3, hvm.tr u4, u5, by rw [u7, rset_ne (show ¬ t = t + 8 by omega)], fun d k hd => by rw [hp, u6 d k hd, w5 d k hd], Int.le_trans w6 u8, Int.le_trans w7 u9⟩
        rw [u2 j hj, rset_rd, w3 j hj]
    · have hp : ply2C M rr (n + 1) c = c := by
        unfold ply2C
        rw [h.1.g8, if_neg g8]
      have fin : Wp (up (σ := Mem) (jTim t N)) (fun q => q = .inr ((), wi N (t + 8) 0 (N.1 (t + 8) 0 + 1))) := ⟨_, rfl, rfl⟩
      have hb : Wp (l_X11_aStep_69 t (jTim t) N) (fun q => q = .inr ((), wi N (t + 8) 0 (N.1 (t + 8) 0 + 1))) := by
        unfold l_X11_aStep_69
        refine Wp.br (fun _ => fin) (fun _ => ?_)
        exact Wp.ng g8 fin
      refine Wp.l1 (hb.mono ?_)
      rintro q rfl
      exact ⟨N, rfl, by rw [hp]; exact h, fun _ _ => rfl, fun g => absurd g g8, VM.rf, hE, rfl, fun _ _ _ => by rw [hp], Int.le_refl _, Int.le_refl _⟩
def RWd (L : LN) (p i : Int32) (T : Int) (c : CW) (r : Nat → Int32) (s sl : Int32) : Prop := ∃ m, Rl (L.1 0) p i (1100 * T) (1200 * T) (300 * T) T m c r s sl ∧ (r 0).toInt = T ∧ (r 22).toInt < 1000 ∧ (r 8 = 2 → (r 23).toInt < 1000)
theorem sim_step {w rr t : Nat} {M N : Mem} {L : LN} {p i : Int32} {T : Int} {c : CW} (hW : LWf L) (hT : 0 ≤ T ∧ T ≤ 60000) (ho : Ow w rr 8) (hL : LineC M rr L) (hE : EnvM t N L) (hp : N.1 t 24 = p) (hi : N.1 t 25 = i) (h : RWd L p i T c (N.1 (t + 8)) (N.1 t 29) (N.1 t 30)) : ∃ M' N', f_X9_step w rr (setW M w c) = some ((), setW M' w (stepC L M rr c)) ∧ VC rr M M' ∧ f_X11_aStep t N = some ((), N') ∧ VM t N N' ∧ EnvM t N' L ∧ RWd L p i (T + 1) (stepC L M rr c) (N'.1 (t + 8)) (N'.1 t 29) (N'.1 t 30) ∧ (N.1 t 29 = 0 → N'.1 t 29 = 0) ∧ ((N.1 (t + 8) 7).toInt ≤ (N'.1 (t + 8) 7).toInt ∧ (N.1 (t + 8) 12).toInt ≤ (N'.1 (t + 8) 12).toInt ∧ (N.1 (t + 8) 4).toInt + (N.1 (t + 8) 5).toInt ≤ (N'.1 (t + 8) 4).toInt + (N'.1 (t + 8) 5).toInt) := by
  obtain ⟨m, hR, hT0, h22, h23⟩ := h
  have hz := hW.1
  have hzn : ¬ L.1 0 = 0 := fun e => by rw [e] at hz; exact absurd hz (by decide)
  have he := hW.2.1
  have hen : ¬ L.1 4 = 0 := fun e => by rw [e] at he; exact absurd he (by decide)
  have e1 : (1 : Int32).toInt = 1 := rfl
  have h00 : c 0 0 = N.1 (t + 8) 0 := hR.1.1.g0
  obtain ⟨q1, q2⟩ := clk_ok (by omega) hR h22
  -- the far clock
  have r29 : (rset N (t + 8) (rup (N.1 (t + 8)) 22 (N.1 (t + 8) 22 + (1000 + N.1 (t + 8) 27)))).1 t 29 = N.1 t 29 := rset_ne (by omega)
  have r30 : (rset N (t + 8) (rup (N.1 (t + 8)) 22 (N.1 (t + 8) 22 + (1000 + N.1 (t + 8) 27)))).1 t 30 = N.1 t 30 := rset_ne (by omega)
  have hv1 : VM t N (rset N (t + 8) (rup (N.1 (t + 8)) 22 (N.1 (t + 8) 22 + (1000 + N.1 (t + 8) 27)))) := VM.rf.rs8
  have hE1 := hE.vm hv1 (hE.2.2.2.2.cg (rset_nf (by omega)) (rset_nf (by omega)) (rset_nf (by omega)))
  have hmk := mk_sim (time := c 0 0) hW (show 1100 * T + 1099 ≤ 100000000 by omega) 2 FU (rset N (t + 8) (rup (N.1 (t + 8)) 22 (N.1 (t + 8) 22 + (1000 + N.1 (t + 8) 27)))) (clkC c) m (by rw [rset_rf, r29, r30]; exact q1) hE1 (by rw [rset_rd, rup_o (by decide), h00]) (by rw [rset_rd]; omega) (by unfold FU; omega)
  obtain ⟨⟨u, N2⟩, e2, ⟨m2, R2⟩, g22, hE2, hv2, g0, gfr, gs0⟩ := hmk
  replace R2 : Rl (L.1 0) p i (1100 * T + 1099) (1200 * T) (300 * T) T m2 (mkC L (c 0 0) 2 (clkC c)) (N2.1 (t + 8)) (N2.1 t 29) (N2.1 t 30) := R2
  replace g22 : (N2.1 (t + 8) 22).toInt < 1000 := g22
  replace hE2 : EnvM t N2 L := hE2
  replace hv2 : VM t (rset N (t + 8) (rup (N.1 (t + 8)) 22 (N.1 (t + 8) 22 + (1000 + N.1 (t + 8) 27)))) N2 := hv2
  replace g0 : N2.1 (t + 8) 0 = c 0 0 := g0
  have g8 : N2.1 (t + 8) 8 = N.1 (t + 8) 8 := by
    have := gfr 8 (by omega)
    rw [rset_rd, rup_o (by decide)] at this
    exact this
  have g23 : N2.1 (t + 8) 23 = N.1 (t + 8) 23 := by
    have := gfr 23 (by omega)
    rw [rset_rd, rup_o (by decide)] at this
    exact this
  have hv02 := hv1.tr hv2
  obtain ⟨R2c, R2m, R240, R2l, R2g, R2d, R2f⟩ := R2
  have h18 : mkC L (c 0 0) 2 (clkC c) 1 8 = Int32.ofNat m2 := by rw [R2c.1.g31, R2m]
  have t18 : (Int32.ofNat m2).toInt = m2 := Int32.toInt_ofNat_of_lt (by omega)
  obtain ⟨⟨_, Mc⟩, ec, M', eM, hvc⟩ := w_step (c := c) hW ho hL (fun c' hc' => by rw [hc', h18, t18]; omega)
  replace eM : Mc = setW M' w (stepC L M rr c) := eM
  subst eM
  -- what comes
  obtain ⟨⟨m3, m340, R3c, R3m, R3l, R3g, R3d⟩, fr3, m45, fr38, fc3⟩ := rcv_ok hz (by omega) (by omega) R240 m2 0 0 (mkC L (c 0 0) 2 (clkC c)) (N2.1 (t + 8)) (Nat.le_refl _) (by omega) R2c R2m (fun j hj => ⟨R2l j (by omega), R2g j (by omega)⟩) (R2d.cg (by omega) rfl rfl)
  have erc := m_receive (N := N2) (t := t) (r := N2.1 (t + 8)) (z := L.1 0) (hE2.1 0 (by decide)) hzn R240 R2m (fun j hj => (R2g j hj).1)
  rw [rset_get] at erc
  have hst : stepC L M rr c = uc (ply2C M rr 2 (nclkC (steC (L.1 0) (L.1 4) (rcvC (L.1 0) m2 0 0 (mkC L (c 0 0) 2 (clkC c)) 0 0) (rcvC (L.1 0) m2 0 0 (mkC L (c 0 0) 2 (clkC c))) 1 0) (steC (L.1 0) (L.1 4) (rcvC (L.1 0) m2 0 0 (mkC L (c 0 0) 2 (clkC c)) 0 0) (rcvC (L.1 0) m2 0 0 (mkC L (c 0 0) 2 (clkC c)))))) 0 0 (ply2C M rr 2 (nclkC (steC (L.1 0) (L.1 4) (rcvC (L.1 0) m2 0 0 (mkC L (c 0 0) 2 (clkC c)) 0 0) (rcvC (L.1 0) m2 0 0 (mkC L (c 0 0) 2 (clkC c))) 1 0) (steC (L.1 0) (L.1 4) (rcvC (L.1 0) m2 0 0 (mkC L (c 0 0) 2 (clkC c)) 0 0) (rcvC (L.1 0) m2 0 0 (mkC L (c 0 0) 2 (clkC c))))) 0 0 + 1) := by
    unfold stepC tailC
    simp only []
    rw [hL.1 0 (by decide), hL.1 4 (by decide), h18, t18, Int.toNat_natCast]
  have fc12 : ∀ k', 12 ≤ k' → rcvC (L.1 0) m2 0 0 (mkC L (c 0 0) 2 (clkC c)) 1 k' = mkC L (c 0 0) 2 (clkC c) 1 k' := fc3
  generalize hr3 : rcvR (L.1 0) m2 m2 0 0 (N2.1 (t + 8)) = r3 at *
  generalize hc3 : rcvC (L.1 0) m2 0 0 (mkC L (c 0 0) 2 (clkC c)) = c3 at *
  have g30 : r3 0 = c 0 0 := by rw [fr3 0 (by omega), g0]
  have t30 : (r3 0).toInt = T := by rw [g30, h00, hT0]
  have b3 : r3 8 = 2 → (r3 23).toInt < 1000 := fun g => by
    rw [fr3 23 (by omega), g23]
    exact h23 (by rw [← g8]; exact fr38 g)
  have h332 : 0 ≤ (r3 32).toInt := by have := R3c.2.2.2.2.1; unfold gN at this; omega
  -- steering
  have est := m_steer (N := N2) (t := t) (r := r3) (z := L.1 0) (e := L.1 4) (hE2.1 0 (by decide)) hzn (hE2.1 4 (by decide)) hen (fun h8 => sf_ok hz R3c h8) h332
  have p24 : N2.1 t 24 = p := by rw [hv02.1 _ _ (by omega) (by omega) (by omega)]; exact hp
  have p25 : N2.1 t 25 = i := by rw [hv02.1 _ _ (by omega) (by omega) (by omega)]; exact hi
  rw [p24, p25] at est
  have b4 := ste_23 (z := L.1 0) (e := L.1 4) (p := p) (i := i) h332 b3
  obtain ⟨R4, fr4, fc4⟩ := ste_ok (time := c3 0 0) hz he.1 (by omega) (by omega) R3c R3c.1.g0 (by omega)
  generalize hr4 : stR (L.1 0) (L.1 4) p i r3 = r4 at *
  generalize hc4 : steC (L.1 0) (L.1 4) (c3 0 0) c3 = c4 at *
  obtain ⟨R5, fr5, fc5, b5⟩ := nclk_ok (by omega) (by omega) R4
  have b5' := b5 b4
  generalize hc5 : nclkC (c4 1 0) c4 = c5 at *
  -- the near clock, playing
  have hply : Wp (jn1 (jTim t) (fun J113 => if ((rset N2 (t + 8) r4).1 (t + 8) 8) = (2 : Int32) then (nm (wi (rset N2 (t + 8) r4) (t + 8) 23 (((rset N2 (t + 8) r4).1 (t + 8) 23) + ((1000 : Int32) + ((rset N2 (t + 8) r4).1 (t + 8) 9)))) (fun M9 => nm (wi M9 (t + 8) 11 ((M9.1 (t + 8) 11) + ((M9.1 (t + 8) 27) - (M9.1 (t + 8) 9)))) (fun M10 => lop1 FU (l_X11_aStep_69 t J113) M10))) else (J113 (rset N2 (t + 8) r4)))) (fun q => ∃ N', q = ((), wi N' (t + 8) 0 (N'.1 (t + 8) 0 + 1)) ∧ Core (L.1 0) p i (1100 * T + 1099) (1200 * T + 1200) (300 * T + 299) (T + 1) (ply2C M rr 2 c5) (N'.1 (t + 8)) ∧ (∀ j, ¬ (j = 6 ∨ j = 7 ∨ j = 8 ∨ j = 12 ∨ j = 13 ∨ j = 14 ∨ j = 23 ∨ j = 30 ∨ 153 ≤ j) → N'.1 (t + 8) j = nclkR r4 j) ∧ (N'.1 (t + 8) 8 = 2 → (N'.1 (t + 8) 23).toInt < 1000) ∧ VM t N2 N' ∧ EnvM t N' L ∧ N'.1 t 29 = N2.1 t 29 ∧ (∀ d k, d ≤ 4 → ply2C M rr 2 c5 d k = c5 d k) ∧ (nclkR r4 7).toInt ≤ (N'.1 (t + 8) 7).toInt ∧ (nclkR r4 12).toInt ≤ (N'.1 (t + 8) 12).toInt) := by
    rw [rset_rd]
    refine Wp.j1 ?_
    have hvr : ∀ S, VM t N2 (rset N2 (t + 8) S) := fun S => VM.rf.rs8
    have hEr : ∀ S, EnvM t (rset N2 (t + 8) S) L := fun S => hE2.vm (hvr S) (hE2.2.2.2.2.cg (rset_nf (by omega)) (rset_nf (by omega)) (rset_nf (by omega)))
    refine Wp.br (fun g => ?_) (fun g => ?_)
    · refine Wp.nam (Wp.nam ?_)
      rw [rset_rd, rset_rd, wi_rset, rset_rd, rset_rd, rset_rd, wi_rset]
      have hn : rup (rup r4 23 (r4 23 + (1000 + r4 9))) 11 (rup r4 23 (r4 23 + (1000 + r4 9)) 11 + (rup r4 23 (r4 23 + (1000 + r4 9)) 27 - rup r4 23 (r4 23 + (1000 + r4 9)) 9)) = nclkR r4 := by
        unfold nclkR
        rw [if_pos g, rup_o (show ¬ 11 = 23 by decide), rup_o (show ¬ 27 = 23 by decide), rup_o (show ¬ 9 = 23 by decide)]
      rw [hn]
      refine (ply_sim (A := 1100 * T + 1099) (B := 1200 * T + 1200) hW (by omega) (by omega) hL 2 FU (rset N2 (t + 8) (nclkR r4)) c5 (by rw [rset_rf]; exact R5) (hEr _) (fun g => by rw [rset_rd] at g ⊢; have := b5' g; omega) (by unfold FU; omega)).mono ?_
      rintro q ⟨N', rfl, u1, u2, u3, u4, u5, u7, u6, u8, u9⟩
      rw [rset_rf] at u8 u9
      refine ⟨N', rfl, u1, fun j hj => by rw [u2 j hj, rset_rd], u3, (hvr _).tr u4, u5, by rw [u7, rset_ne (show ¬ t = t + 8 by omega)], u6, u8, u9⟩
    · have hn : nclkR r4 = r4 := by unfold nclkR; rw [if_neg g]
      rw [hn] at R5 ⊢
      have hp5 : ply2C M rr 2 c5 = c5 := by
        unfold ply2C
        rw [R5.1.g8, if_neg g]
      refine Wp.nam (Wp.ret ⟨rset N2 (t + 8) r4, rfl, by rw [hp5, rset_rf]; exact R5, fun j hj => by rw [rset_rd], fun a => by rw [rset_rd] at a; exact absurd a g, hvr _, hEr _, rset_ne (by omega), fun _ _ _ => by rw [hp5], by rw [rset_rd]; exact Int.le_refl _, by rw [rset_rd]; exact Int.le_refl _⟩)
  obtain ⟨qq, eq, N5, rfl, u1, u2, u3, u4, u5, u7, u6, u8, u9⟩ := hply
  have hem : f_X11_makeOctets t N = some ((), N2) := by
    unfold f_X11_makeOctets nm
    rw [wi_rs (N := N)]
    exact e2
  have hst2 : f_X11_aStep t N = some ((), wi N5 (t + 8) 0 (N5.1 (t + 8) 0 + 1)) := by
    unfold f_X11_aStep
    rw [bd_eq hem, bd_eq erc, bd_eq est]
    exact eq
  have frA : ∀ j, ¬ (j = 6 ∨ j = 7 ∨ j = 8 ∨ j = 9 ∨ j = 10 ∨ j = 11 ∨ j = 12 ∨ j = 13 ∨ j = 14 ∨ j = 23 ∨ j = 30 ∨ j = 32 ∨ 153 ≤ j) → N5.1 (t + 8) j = r3 j := fun j hj => by rw [u2 j (by omega), fr5 j (by omega), fr4 j (by omega)]
  have fcA : ∀ d k, d ≤ 4 → ply2C M rr 2 c5 d k = c3 d k := fun d k hd => by rw [u6 d k hd, fc5 d k (by omega), fc4 d k hd]
  have n50 : N5.1 (t + 8) 0 = N.1 (t + 8) 0 := by rw [frA 0 (by omega), g30, h00]
  have hr0 : (wi N5 (t + 8) 0 (N5.1 (t + 8) 0 + 1)).1 (t + 8) = rup (N5.1 (t + 8)) 0 (N5.1 (t + 8) 0 + 1) := wi_rr
  have fr0 : ∀ j, ¬ j = 0 → rup (N5.1 (t + 8)) 0 (N5.1 (t + 8) 0 + 1) j = N5.1 (t + 8) j := fun j hj => rup_o hj
  have hvF : VM t N (wi N5 (t + 8) 0 (N5.1 (t + 8) 0 + 1)) := (hv02.tr u4).wi8
  refine ⟨M', _, ec, hvc, hst2, hvF, u5.vm VM.rf.wi8 (u5.2.2.2.2.cg (wi_rwo (by omega)) (wi_rwo (by omega)) (wi_rwo (by omega))), ⟨m3, ?_, ?_, ?_, ?_⟩, fun g => by rw [wi_rwo (by omega), u7]; exact gs0 (by rw [r29]; exact g), ?_, ?_, ?_⟩
  · rw [hst, hr0]
    have s29 : (wi N5 (t + 8) 0 (N5.1 (t + 8) 0 + 1)).1 t 29 = N2.1 t 29 := by rw [wi_rwo (by omega), u7]
    have s30 : (wi N5 (t + 8) 0 (N5.1 (t + 8) 0 + 1)).1 t 30 = N2.1 t 30 := by rw [wi_rwo (by omega), u4.1 _ _ (by omega) (by omega) (by omega)]
    rw [s29, s30]
    have hfcu : ∀ d k, ¬ d = 0 → uc (ply2C M rr 2 c5) 0 0 (ply2C M rr 2 c5 0 0 + 1) d k = ply2C M rr 2 c5 d k := fun d k hd => uc_o (by omega)
    refine ⟨(tim_ok u1).mono (by omega) (by omega) (by omega) (by omega), by rw [fr0 31 (by omega), frA 31 (by omega)]; exact R3m, m340, R3l.cg (fun d k hd _ => by rw [hfcu d k (by omega), fcA d k (by omega)]) (fun j a b => by rw [fr0 j (by omega), frA j (by omega)]), ?_, ?_, ?_⟩
    · rw [fr0 2 (by omega), frA 2 (by omega)]
      exact R3g.cg (Int.le_refl _) (fun k hk => by rw [fr0 _ (by omega), frA _ (by omega)])
    · rw [fr0 2 (by omega), frA 2 (by omega)]
      exact R3d.cg (Int.le_refl _) (by rw [fr0 _ (by omega), frA _ (by omega)]) (by rw [fr0 _ (by omega), frA _ (by omega)])
    · rw [hfcu _ _ (by omega), hfcu _ _ (by omega), fcA _ _ (by omega), fcA _ _ (by omega), fc12 12 (by omega), fc12 13 (by omega)]
      exact R2f
  · rw [hr0, rup_s, n50, ti_add (by rw [hT0, e1]; omega) (by rw [hT0, e1]; omega), hT0, e1]
  · rw [hr0, fr0 22 (by omega), frA 22 (by omega), fr3 22 (by omega)]
    exact g22
  · rw [hr0, fr0 8 (by omega), fr0 23 (by omega)]
    exact u3
  · rw [hr0, fr0 7 (by omega)]
    have a7 : nclkR r4 7 = N.1 (t + 8) 7 := by
      rw [fr5 7 (by omega), fr4 7 (by omega), fr3 7 (by omega)]
      have := gfr 7 (by omega)
      rw [rset_rd, rup_o (by decide)] at this
      exact this
    rw [← a7]
    exact u8
  · rw [hr0, fr0 12 (by omega)]
    have a12 : nclkR r4 12 = N.1 (t + 8) 12 := by
      rw [fr5 12 (by omega), fr4 12 (by omega), fr3 12 (by omega)]
      have := gfr 12 (by omega)
      rw [rset_rd, rup_o (by decide)] at this
      exact this
    rw [← a12]
    exact u9
  · rw [hr0, fr0 4 (by omega), fr0 5 (by omega), frA 4 (by omega), frA 5 (by omega)]
    have a4 : N2.1 (t + 8) 4 = N.1 (t + 8) 4 := by
      have := gfr 4 (by omega)
      rw [rset_rd, rup_o (by decide)] at this
      exact this
    have a5 : N2.1 (t + 8) 5 = N.1 (t + 8) 5 := by
      have := gfr 5 (by omega)
      rw [rset_rd, rup_o (by decide)] at this
      exact this
    rw [← a4, ← a5]
    exact m45
