/-! undo -/
theorem i_sb1 {a : Nat} : Int32.ofNat (a + 1) - 1 = Int32.ofNat a := by
  rw [← i_ad1]
  exact Int32.add_sub_cancel _ _
def cpy (past r : Nat → Int32) (m k : Nat) : Nat → Int32 := fun j => if j < k then past (665 * m + j) else r j
theorem undo_loop {t m : Nat} {N : Mem} (hm : m < 40) (h31 : N.1 t 31 = Int32.ofNat m) : ∀ (d k fu : Nat) (P : Nat → Int32), k + d = 665 → d < fu → P = cpy (N.1 (t + 15)) (N.1 (t + 8)) m k → lop2 fu (l_X11_undo_25 t) (Int32.ofNat k) (rset N (t + 8) P) = some (Int32.ofNat m, rset N (t + 8) (cpy (N.1 (t + 15)) (N.1 (t + 8)) m 665)) := by
  intro d
  induction d with
  | zero =>
    intro k fu P hk hf hP
    obtain ⟨fu, rfl⟩ : ∃ q, fu = q + 1 := ⟨fu - 1, by omega⟩
    obtain rfl : k = 665 := by omega
    subst hP
    refine lop2_inr (Wp.eq ?_)
    unfold l_X11_undo_25
    refine Wp.ps (by decide) ?_
    rw [rset_ne (show ¬ t = t + 8 by omega), h31]
    exact Wp.ret rfl
  | succ d ih =>
    intro k fu P hk hf hP
    obtain ⟨fu, rfl⟩ : ∃ q, fu = q + 1 := ⟨fu - 1, by omega⟩
    have e : l_X11_undo_25 t (Int32.ofNat k) (rset N (t + 8) P) = some (.inl (Int32.ofNat (k + 1), rset N (t + 8) (rup P k (N.1 (t + 15) (665 * m + k))))) := by
      refine Wp.eq ?_
      unfold l_X11_undo_25
      refine Wp.ng (i64_lt (n := 665) (by decide) (by omega)) ?_
      rw [rset_ne (show ¬ t = t + 8 by omega), h31, i665, i_nn (show k < 2 ^ 31 by omega), i_nn (show 665 * m + k < 2 ^ 31 by omega)]
      refine Wp.gi (i_rng (by omega) (by decide)) (Wp.gi (i_rng (by omega) (by decide)) (Wp.nam (Wp.nam ?_)))
      rw [rset_ne (show ¬ t + 15 = t + 8 by omega), wi_rset, i_ad1]
      exact Wp.ret rfl
    rw [lop2_inl e]
    refine ih (k + 1) fu _ (by omega) (by omega) ?_
    subst hP
    funext j
    unfold rup cpy
    by_cases h1 : j = k
    · subst h1
      rw [if_pos rfl, if_pos (by omega)]
    · rw [if_neg h1]
      by_cases h2 : j < k
      · rw [if_pos h2, if_pos (by omega)]
      · rw [if_neg h2, if_neg (by omega)]
def RP (x m : Nat) (M0 M1 : Mem) : Prop := FS x M0 M1 ∧ (∀ b a, x + 19 ≤ b → b < x + 49 → ¬ (x + 19 + 1 ≤ b ∧ b < x + 19 + 13) → ¬ (b = x + 19 ∧ a = 2) → M1.1 b a = M0.1 b a) ∧ M1.1 (x + 19) 2 = Int32.ofNat m
theorem replay {x n m : Nat} {L : LN} {M0 N : Mem} {r past nin nlev stat : Nat → Int32} {nn : Nat} (hI : Inv2 x L M0 N) (hs : SRn L M0 (x + 19) r past nin nlev stat n nn) (hm : m < n) : ∀ (d k fu : Nat) (M1 : Mem), k + d = m → d < fu → RP x m M0 M1 → (∃ T, W0 L T (getW M1 (x + 19 + 1)) (prR past r n k)) → ∃ M2, lop2 fu (l_X8_takeBack_32 (x + 19) (M0.2.2 0)) (Int32.ofNat k) M1 = some (Int32.ofNat m, M2) ∧ RP x m M0 M2 ∧ ∃ T, W0 L T (getW M2 (x + 19 + 1)) (prR past r n m) := by
  have ha := hI.at
  have hn40 := hs.1
  intro d
  induction d with
  | zero =>
    intro k fu M1 hk hf hr hw
    obtain ⟨fu, rfl⟩ : ∃ q, fu = q + 1 := ⟨fu - 1, by omega⟩
    obtain rfl : k = m := by omega
    refine ⟨M1, lop2_inr (Wp.eq ?_), hr, hw⟩
    unfold l_X8_takeBack_32
    rw [hr.2.2]
    exact Wp.ps ((i_le (by omega) (by omega)).mpr (Nat.le_refl _)) (Wp.ret rfl)
  | succ d ih =>
    intro k fu M1 hk hf hr hw
    obtain ⟨fu, rfl⟩ : ∃ q, fu = q + 1 := ⟨fu - 1, by omega⟩
    obtain ⟨T, hT⟩ := hw
    have ok := hs.2.2.2.2.1 k (by omega)
    have st := hs.2.2.2.2.2.2.2.1 k (by omega)
    have v25 : M1.1 (x + 19 + 25) k = M0.1 (x + 19 + 25) k := hr.2.1 _ _ (by omega) (by omega) (by omega) (by omega)
    have v26 : M1.1 (x + 19 + 26) k = M0.1 (x + 19 + 26) k := hr.2.1 _ _ (by omega) (by omega) (by omega) (by omega)
    obtain ⟨M2, e2, l2, f2, d2⟩ := app_ok hI (hI.2.2.1.FS hr.1 ha) (show x + 19 ≤ x + 19 + 1 by omega) hT ok
    have e : l_X8_takeBack_32 (x + 19) (M0.2.2 0) (Int32.ofNat k) M1 = some (.inl (Int32.ofNat (k + 1), M2)) := by
      refine Wp.eq ?_
      unfold l_X8_takeBack_32
      rw [hr.2.2]
      refine Wp.ng (fun g => by have := (i_le (by omega) (by omega)).mp g; omega) ?_
      refine Wp.cl (at_nat (by omega) (by decide)) (Wp.cl (at_nat (by omega) (by decide)) ?_)
      rw [v25, v26]
      refine Wp.cl e2 (Wp.nam ?_)
      rw [i_ad1]
      exact Wp.ret rfl
    rw [lop2_inl e]
    have hL : lineAt x M0 := ha
    refine ih (k + 1) fu M2 (by omega) (by omega) ⟨⟨fun b a hb => ?_, by rw [d2]; exact hr.1.2⟩, fun b a h1 h2 h3 h4 => ?_, ?_⟩ ?_
    · rw [f2 b a (by omega) (by unfold lineAt at hL; omega) (by unfold lineAt at hL; omega)]
      exact hr.1.1 b a hb
    · rw [f2 b a (by omega) (by unfold lineAt at hL; omega) (by unfold lineAt at hL; omega)]
      exact hr.2.1 b a h1 h2 h3 h4
    · rw [f2 _ _ (by omega) (by unfold lineAt at hL; omega) (by unfold lineAt at hL; omega)]
      exact hr.2.2
    · obtain ⟨T', hT'⟩ := st _ _ hT
      exact ⟨T', hT'.lv l2⟩
theorem call_undo {x : Nat} {L : LN} {M N0 N : Mem} (h : Rdy x L M N0 N) : CallV x M N (f_X10_undo x M) (f_X11_undo (x + 95) N0) := by
  obtain ⟨hr, hI, hc0⟩ := h
  have ha := hI.at
  obtain ⟨n, nn, c1, c2, c3⟩ := hI.2.2.2.2.2.2.2.2.2.1
  have a1 := c3.1
  have a3 := c3.2.2.1
  by_cases hn : n = 0
  · subst hn
    refine ⟨-1, M, N, L, Wp.eq ?_, Wp.eq ?_, hI, FrC.rf, GS.rf.fr⟩
    · unfold f_X10_undo f_X8_takeBack
      refine Wp.gp ha (Wp.bnd (Wp.ng ?_ (Wp.ret (Wp.ret rfl))))
      rw [a3]
      decide
    · unfold f_X11_undo
      refine Wp.cl hr (Wp.ps ?_ (Wp.ret rfl))
      rw [c1]
      rfl
  · obtain ⟨m, rfl⟩ : ∃ m, n = m + 1 := ⟨n - 1, by omega⟩
    have hM1 : RP x m M (wi M (x + 19) 2 (Int32.ofNat m)) := ⟨FS.wr (by omega), fun b a _ _ _ h4 => by
      simp only [wi]
      rw [if_neg h4], wi_hit⟩
    generalize hM1e : wi M (x + 19) 2 (Int32.ofNat m) = M1 at hM1
    have hcp := e_cp0 (M := M1) (w := x + 19 + 1) (w0 := x + 19 + 13) (c := getW M1 (x + 19 + 1)) (by unfold Ow; omega)
    rw [set_get] at hcp
    obtain ⟨T0, w0⟩ := c3.2.2.2.2.2.2.1
    have hw13 : W0 L T0 (getW M1 (x + 19 + 13)) (prR (N.1 (x + 95 + 15)) (N.1 (x + 95 + 8)) (m + 1) 0) := w0.lv (Lv.of fun d k hd => hM1.2.1 _ _ (by omega) (by omega) (by omega) (by omega))
    generalize hM2e : setW M1 (x + 19 + 1) (cp0 (getW M1 (x + 19 + 13)) (getW M1 (x + 19 + 1))) = M2 at hcp
    have g2 : ∀ b a, ¬ (x + 19 + 1 ≤ b ∧ b < x + 19 + 13) → M2.1 b a = M1.1 b a := fun b a hb => by
      rw [← hM2e]
      exact rd_Wo (by omega)
    have hM2 : RP x m M M2 := ⟨⟨fun b a hb => by rw [g2 b a (by omega)]; exact hM1.1.1 b a hb, by rw [← hM2e]; exact hM1.1.2⟩, fun b a h1 h2 h3 h4 => by rw [g2 b a h3]; exact hM1.2.1 b a h1 h2 h3 h4, by rw [g2 _ _ (by omega)]; exact hM1.2.2⟩
    have hw2 : W0 L T0 (getW M2 (x + 19 + 1)) (prR (N.1 (x + 95 + 15)) (N.1 (x + 95 + 8)) (m + 1) 0) := by
      rw [← hM2e]
      exact (hw13.lv cp0_lv).lv getset
    obtain ⟨M3, e3, hM3, T3, hw3⟩ := replay hI c3 (Nat.lt_succ_self m) m 0 FU M2 (by omega) (by unfold FU; omega) hM2 ⟨T0, hw2⟩
    generalize hN1e : wi N (x + 95) 31 (Int32.ofNat m) = N1
    have gN1 : ∀ b a, ¬ (b = x + 95 ∧ a = 31) → N1.1 b a = N.1 b a := fun b a hb => by
      rw [← hN1e]
      simp only [wi]
      rw [if_neg hb]
    have k31 : N1.1 (x + 95) 31 = Int32.ofNat m := by rw [← hN1e, wi_hit]
    have hul := undo_loop (t := x + 95) (N := N1) (show m < 40 by omega) k31 665 0 FU (N1.1 (x + 95 + 8)) (by omega) (by unfold FU; omega) (by funext j; unfold cpy; rw [if_neg (by omega)])
    rw [rset_get] at hul
    generalize hN2e : rset N1 (x + 95 + 8) (cpy (N1.1 (x + 95 + 15)) (N1.1 (x + 95 + 8)) m 665) = N2 at hul
    have gN2 : ∀ b a, ¬ b = x + 95 + 8 → ¬ (b = x + 95 ∧ a = 31) → N2.1 b a = N.1 b a := fun b a h1 h2 => by rw [← hN2e, rset_ne h1]; exact gN1 b a h2
    have row : ∀ b, ¬ b = x + 95 + 8 → ¬ b = x + 95 → N2.1 b = N.1 b := fun b h1 h2 => funext fun a => gN2 b a h1 (by omega)
    have e8 : ∀ j, j < 665 → N2.1 (x + 95 + 8) j = prR (N.1 (x + 95 + 15)) (N.1 (x + 95 + 8)) (m + 1) m j := fun j hj => by
      rw [← hN2e, rset_rd]
      unfold cpy prR
      rw [if_pos hj, if_pos (Nat.lt_succ_self m), gN1 _ _ (by omega)]
    have g : GS x N N2 := ⟨fun b a hb => gN2 b a (by omega) (by omega), by rw [← hN2e, ← hN1e]; rfl⟩
    refine ⟨Int32.ofNat m, M3, N2, L, Wp.eq ?_, Wp.eq ?_, hI.now hM3.1 g (hI.2.2.2.1.2.2.2.2.cg (row _ (by omega) (by omega)) (row _ (by omega) (by omega)) (row _ (by omega) (by omega))) (n := m) (nn := nn) (by rw [← hN2e, rset_ne (by omega)]; exact k31) (by rw [gN2 _ _ (by omega) (by omega)]; exact c2) ?_, hM3.1.fr, g.fr⟩
    · unfold f_X10_undo
      refine Wp.gp ha ?_
      have e : f_X8_takeBack (x + 19) (M.2.2 0) M = some (Int32.ofNat m, M3) := by
        refine Wp.eq ?_
        unfold f_X8_takeBack
        refine Wp.ps ?_ (Wp.nam ?_)
        · rw [a3]
          exact (i_lt (a := 0) (b := m + 1) (by decide) (by omega)).mpr (Nat.succ_pos m)
        · rw [a3, i_sb1, hM1e]
          refine Wp.cl hcp ?_
          have : lop2 FU (l_X8_takeBack_32 (x + 19) (M.2.2 0)) (0 : Int32) M2 = some (Int32.ofNat m, M3) := e3
          rw [this]
          exact Wp.ret rfl
      exact Wp.cl e (Wp.ret rfl)
    · unfold f_X11_undo
      refine Wp.cl hr (Wp.ng ?_ (Wp.nam ?_))
      · rw [c1]
        intro g
        have := (i_le (a := m + 1) (b := 0) (by omega) (by decide)).mp (by rw [g]; decide)
        omega
      · rw [c1, i_sb1, hN1e]
        have : lop2 FU (l_X11_undo_25 (x + 95)) (0 : Int32) N1 = some (Int32.ofNat m, N2) := hul
        rw [this]
        exact Wp.ret rfl
    · rw [row (x + 95 + 15) (by omega) (by omega), row (x + 95 + 18) (by omega) (by omega), row (x + 95 + 19) (by omega) (by omega), row (x + 95 + 7) (by omega) (by omega)]
      obtain ⟨b1, b2, b3, b4, b5, b6, b7, b8, b9, b10⟩ := c3
      have hpr : ∀ j, j ≤ m → ∀ k, k < 665 → prR (N.1 (x + 95 + 15)) (N2.1 (x + 95 + 8)) m j k = prR (N.1 (x + 95 + 15)) (N.1 (x + 95 + 8)) (m + 1) j k := fun j hj k hk => by
        by_cases e : j < m
        · unfold prR
          rw [if_pos e, if_pos (by omega)]
        · obtain rfl : j = m := by omega
          rw [← e8 k hk]
          unfold prR
          rw [if_neg (by omega)]
      have q3 : ∀ b a, x + 19 ≤ b → b < x + 49 → ¬ (x + 19 + 1 ≤ b ∧ b < x + 19 + 13) → ¬ (b = x + 19 ∧ a = 2) → M3.1 b a = M.1 b a := hM3.2.1
      refine ⟨by omega, b2, hM3.2.2, by rw [q3 _ _ (by omega) (by omega) (by omega) (by omega)]; exact b4, fun j hj => by rw [q3 _ _ (by omega) (by omega) (by omega) (by omega), q3 _ _ (by omega) (by omega) (by omega) (by omega)]; exact b5 j (by omega), ⟨T3, hw3.rg (fun j hj => e8 j hj)⟩, ⟨T0, (w0.lv (Lv.of fun d k hd => q3 _ _ (by omega) (by omega) (by omega) (by omega))).rg (fun k hk => hpr 0 (Nat.zero_le _) k hk)⟩, fun j hj => ?_, fun j hj => by rw [q3 _ _ (by omega) (by omega) (by omega) (by omega), q3 _ _ (by omega) (by omega) (by omega) (by omega)]; exact b9 j hj, fun j hj => by rw [q3 _ _ (by omega) (by omega) (by omega) (by omega)]; exact b10 j hj⟩
      rw [q3 _ _ (by omega) (by omega) (by omega) (by omega), q3 _ _ (by omega) (by omega) (by omega) (by omega)]
      exact (b8 j (by omega)).rg (hpr j (by omega)) (hpr (j + 1) (by omega))
