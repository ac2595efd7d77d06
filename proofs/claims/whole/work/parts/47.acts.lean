/-! Acts that are kept: the class does them again, the model keeps rows. -/
def FS (x : Nat) (M M' : Mem) : Prop := (∀ b k, ¬ (b = x + 7 ∨ b = x + 10 ∨ b = x + 15 ∨ b = x + 18 ∨ (x + 19 ≤ b ∧ b < x + 49)) → M'.1 b k = M.1 b k) ∧ M'.2 = M.2
def GS (x : Nat) (N N' : Mem) : Prop := (∀ b k, ¬ (b = x + 95 + 7 ∨ b = x + 95 + 8 ∨ (x + 95 + 10 ≤ b ∧ b ≤ x + 95 + 14) ∨ b = x + 95 + 15 ∨ b = x + 95 + 18 ∨ b = x + 95 + 19 ∨ (b = x + 95 ∧ (k = 2 ∨ k = 30 ∨ k = 31 ∨ k = 32))) → N'.1 b k = N.1 b k) ∧ N'.2 = N.2
theorem FS.rf {x : Nat} {M : Mem} : FS x M M := ⟨fun _ _ _ => rfl, rfl⟩
theorem GS.rf {x : Nat} {M : Mem} : GS x M M := ⟨fun _ _ _ => rfl, rfl⟩
theorem FS.tr {x : Nat} {M M1 M2 : Mem} (h1 : FS x M M1) (h2 : FS x M1 M2) : FS x M M2 := ⟨fun b k h => (h2.1 b k h).trans (h1.1 b k h), h2.2.trans h1.2⟩
theorem GS.tr {x : Nat} {M M1 M2 : Mem} (h1 : GS x M M1) (h2 : GS x M1 M2) : GS x M M2 := ⟨fun b k h => (h2.1 b k h).trans (h1.1 b k h), h2.2.trans h1.2⟩
theorem FS.wr {x b k : Nat} {v : Int32} {M : Mem} (hb : x + 19 ≤ b ∧ b < x + 49) : FS x M (wi M b k v) := ⟨fun a j ha => by
  have : ¬ (a = b ∧ j = k) := fun e => ha (by omega)
  simp only [wi, if_neg this], rfl⟩
theorem GS.wr {x b k : Nat} {v : Int32} {N : Mem} (hb : b = x + 95 + 7 ∨ b = x + 95 + 8 ∨ b = x + 95 + 15 ∨ b = x + 95 + 18 ∨ b = x + 95 + 19 ∨ (b = x + 95 ∧ (k = 2 ∨ k = 30 ∨ k = 31 ∨ k = 32))) : GS x N (wi N b k v) := ⟨fun a j ha => by
  have : ¬ (a = b ∧ j = k) := fun e => ha (by omega)
  simp only [wi, if_neg this], rfl⟩
theorem FS.fr {x : Nat} {M M' : Mem} (h : FS x M M') : FrC x M M' := ⟨fun b k hb => h.1 b k (by omega), by rw [h.2]⟩
theorem GS.fr {x : Nat} {M M' : Mem} (h : GS x M M') : FrM x M M' := ⟨fun b k hb => h.1 b k (by omega), h.2⟩
/-- the session has changed alike -/
theorem Inv2.now {x : Nat} {L : LN} {M N M' N' : Mem} {n nn : Nat} (h : Inv2 x L M N) (hM : FS x M M') (hN : GS x N N') (hc : CVm (x + 95) N' L.2.2.1 L.2.2.2) (c1' : N'.1 (x + 95) 31 = Int32.ofNat n) (c2' : N'.1 (x + 95) 32 = Int32.ofNat nn) (c3' : SRn L M' (x + 19) (N'.1 (x + 95 + 8)) (N'.1 (x + 95 + 15)) (N'.1 (x + 95 + 18)) (N'.1 (x + 95 + 19)) (N'.1 (x + 95 + 7)) n nn) : Inv2 x L M' N' := by
  obtain ⟨a1, a2, a3, a4, a5, a6, a7, ⟨k, b1, b2, b3, b4⟩, a9, _, ⟨d1, d2, d3⟩, a12⟩ := h
  have hw : M'.2.2 0 = M.2.2 0 ∧ M'.2.2 1 = M.2.2 1 := by rw [hM.2]; exact ⟨rfl, rfl⟩
  have gM := hM.1
  have gN := hN.1
  refine ⟨a1, by rw [hw.1, hw.2]; exact a2, by rw [hw.1]; exact a3.cg (fun b k hb => gM b k (by omega)), a4.cg (fun b k hb => gN b k (by omega)) hc, by rw [gN _ _ (by omega)]; exact a5, by rw [gN _ _ (by omega)]; exact a6, by rw [gN _ _ (by omega)]; exact a7, ⟨k, b1, by rw [gM _ _ (by omega)]; exact b2, by rw [gN _ _ (by omega)]; exact b3, fun j hj => by rw [gM _ _ (by omega), gN _ _ (by omega)]; exact b4 j hj⟩, by rw [gM _ _ (by omega), gN _ _ (by omega)]; exact a9, ⟨n, nn, c1', c2', c3'⟩, ⟨by rw [gM _ _ (by omega), gN _ _ (by omega)]; exact d1, by rw [gM _ _ (by omega)]; exact d2, fun h4 => ?_⟩, by rw [gN _ _ (by omega)]; exact a12⟩
  rw [gM _ _ (by omega)] at h4
  obtain ⟨n, nn, e1, e2, e3⟩ := d3 h4
  exact ⟨n, nn, by rw [gN _ _ (by omega)]; exact e1, by rw [gN _ _ (by omega)]; exact e2, e3.cg (fun b k h1 h2 => gM b k (by omega)) (fun j hj => gN _ _ (by omega)) (fun j hj => gN _ _ (by omega)) (fun j hj => gN _ _ (by omega)) (fun j hj => gN _ _ (by omega)) (fun j hj => gN _ _ (by omega))⟩
/-- an act is done in the class, of whatever row the world is -/
theorem app_ok {x w : Nat} {L : LN} {M M0 N : Mem} {T : Int} {kind num : Int32} {r : Nat → Int32} (hI : Inv2 x L M0 N) (hL : LineC M (M0.2.2 0) L) (hw : x + 19 ≤ w) (h : W0 L T (getW M w) r) (ho : actOk kind num) : ∃ M', f_X9_apply w (M0.2.2 0) kind num M = some ((), M') ∧ Lv (actC L kind num (getW M w)) (getW M' w) ∧ (∀ b k, ¬ (w ≤ b ∧ b < w + 12) → ¬ b = M0.2.2 0 + 4 → ¬ b = M0.2.2 0 + 7 → M'.1 b k = M.1 b k) ∧ M'.2 = M.2 := by
  have ha := hI.at
  have set1 : ∀ (d k : Nat) (v : Int32), d < 12 → getW (wi M (w + d) k v) w = uc (getW M w) d k v := fun d k v _ => getW_wi
  rcases ho with ⟨h1, h2, h3⟩ | h1 | h1 | ⟨h1, h2⟩ | h1 | h1
  · subst h1
    have hnn : num = Int32.ofNat num.toInt.toNat := nat_of (by omega)
    have hE : EnvM (x + 95) (rset N (x + 95 + 8) r) L := hI.2.2.2.1.cg (fun b k hb => rset_ne (by omega)) (hI.2.2.2.1.2.2.2.2.cg (rset_nf (by omega)) (rset_nf (by omega)) (rset_nf (by omega)))
    obtain ⟨M', N', g1, g2, _⟩ := sim_go (w := w) (rr := M0.2.2 0) (t := x + 95) (M := M) (p := L.1 2) (i := L.1 3) (c := getW M w) (k := num.toInt.toNat) hI.1 (ha.ow hw) (by omega) h.1 (by have := h.2.1; omega) hL hE (by rw [rset_ne (by omega)]; exact hI.2.2.2.2.1) (by rw [rset_ne (by omega)]; exact hI.2.2.2.2.2.1) (T := T) (by rw [rset_rf, rset_ne (show ¬ x + 95 = x + 95 + 8 by omega), rset_ne (show ¬ x + 95 = x + 95 + 8 by omega), hI.2.2.2.2.2.2.1]; exact h.2.2.sl _)
    rw [set_get, ← hnn] at g1
    refine ⟨_, g1, ?_, fun b k h1 h2 h3 => by rw [rd_Wo h1]; exact g2.1 b k h2 h3, g2.2⟩
    unfold actC
    rw [if_pos rfl]
    exact getset
  · subst h1
    refine ⟨wi M (w + 1) 6 num, Wp.eq ?_, by rw [set1 1 6 num (by decide)]; exact Lv.rf, fun b k h1 _ _ => by rw [wi_rwo (by omega)], rfl⟩
    unfold f_X9_apply
    exact Wp.j1 (Wp.ng (by decide) (Wp.ng (by decide) (Wp.ps rfl (Wp.nam (Wp.ret rfl)))))
  · subst h1
    refine ⟨wi M (w + 1) 7 num, Wp.eq ?_, by rw [set1 1 7 num (by decide)]; exact Lv.rf, fun b k h1 _ _ => by rw [wi_rwo (by omega)], rfl⟩
    unfold f_X9_apply
    exact Wp.j1 (Wp.ng (by decide) (Wp.ng (by decide) (Wp.ng (by decide) (Wp.ps rfl (Wp.nam (Wp.ret rfl))))))
  · subst h1
    refine ⟨wi M (w + 1) 0 num, Wp.eq ?_, by rw [set1 1 0 num (by decide)]; exact Lv.rf, fun b k h1 _ _ => by rw [wi_rwo (by omega)], rfl⟩
    unfold f_X9_apply
    exact Wp.j1 (Wp.ng (by decide) (Wp.ng (by decide) (Wp.ng (by decide) (Wp.ng (by decide) (Wp.ps rfl (Wp.nam (Wp.ret rfl)))))))
  · subst h1
    refine ⟨wi M (w + 5) 2 num, Wp.eq ?_, by rw [set1 5 2 num (by decide)]; exact Lv.rf, fun b k h1 _ _ => by rw [wi_rwo (by omega)], rfl⟩
    unfold f_X9_apply
    exact Wp.j1 (Wp.ng (by decide) (Wp.ng (by decide) (Wp.ng (by decide) (Wp.ng (by decide) (Wp.ng (by decide) (Wp.ps rfl (Wp.nam (Wp.ret rfl))))))))
  · subst h1
    refine ⟨wi M (w + 5) 1 num, Wp.eq ?_, by rw [set1 5 1 num (by decide)]; exact Lv.rf, fun b k h1 _ _ => by rw [wi_rwo (by omega)], rfl⟩
    unfold f_X9_apply
    exact Wp.j1 (Wp.ps (by decide) (Wp.nam (Wp.ret rfl)))
/-! the model keeps its row -/
def blkP (past r : Nat → Int32) (n k : Nat) : Nat → Int32 := fun j => if 665 * n ≤ j ∧ j < 665 * n + k then r (j - 665 * n) else past j
theorem i665 {n k : Nat} : (665 : Int32) * Int32.ofNat n + Int32.ofNat k = Int32.ofNat (665 * n + k) := i_lin (c := 665)
theorem keep_loop {t n : Nat} {N : Mem} (hn : n < 40) (h31 : N.1 t 31 = Int32.ofNat n) : ∀ (m k fu : Nat) (P : Nat → Int32), k + m = 665 → m < fu → P = blkP (N.1 (t + 15)) (N.1 (t + 8)) n k → lop2 fu (l_X11_keep_56 t) (Int32.ofNat k) (rset N (t + 15) P) = some ((), wi (rset N (t + 15) (blkP (N.1 (t + 15)) (N.1 (t + 8)) n 665)) t 31 (Int32.ofNat (n + 1))) := by
  intro m
  induction m with
  | zero =>
    intro k fu P hk hf hP
    obtain ⟨fu, rfl⟩ : ∃ q, fu = q + 1 := ⟨fu - 1, by omega⟩
    obtain rfl : k = 665 := by omega
    subst hP
    refine lop2_inr (Wp.eq ?_)
    unfold l_X11_keep_56
    refine Wp.ps (by decide) (Wp.nam ?_)
    rw [rset_ne (show ¬ t = t + 15 by omega), h31, i_ad1]
    exact Wp.ret rfl
  | succ m ih =>
    intro k fu P hk hf hP
    obtain ⟨fu, rfl⟩ : ∃ q, fu = q + 1 := ⟨fu - 1, by omega⟩
    have e : l_X11_keep_56 t (Int32.ofNat k) (rset N (t + 15) P) = some (.inl (Int32.ofNat (k + 1), rset N (t + 15) (rup P (665 * n + k) (N.1 (t + 8) k)))) := by
      refine Wp.eq ?_
      unfold l_X11_keep_56
      refine Wp.ng (i64_lt (n := 665) (by decide) (by omega)) ?_
      rw [rset_ne (show ¬ t = t + 15 by omega), h31, i665, i_nn (show k < 2 ^ 31 by omega), i_nn (show 665 * n + k < 2 ^ 31 by omega)]
      refine Wp.gi (i_rng (by omega) (by decide)) (Wp.gi (i_rng (by omega) (by decide)) (Wp.nam (Wp.nam ?_)))
      rw [rset_ne (show ¬ t + 8 = t + 15 by omega), wi_rset, i_ad1]
      exact Wp.ret rfl
    rw [lop2_inl e]
    refine ih (k + 1) fu _ (by omega) (by omega) ?_
    subst hP
    funext j
    unfold rup blkP
    by_cases h1 : j = 665 * n + k
    · subst h1
      have e : 665 * n + k - 665 * n = k := by omega
      rw [if_pos rfl, if_pos (by omega), e]
    · rw [if_neg h1]
      by_cases h2 : 665 * n ≤ j ∧ j < 665 * n + k
      · rw [if_pos h2, if_pos (by omega)]
      · rw [if_neg h2, if_neg (by omega)]
def shP (past : Nat → Int32) (k : Nat) : Nat → Int32 := fun j => if j + 665 < k then past (j + 665) else past j
theorem shift_loop {t : Nat} {N : Mem} {J : Mem → Option (Unit × Mem)} (h31 : N.1 t 31 = 40) : ∀ (m k fu : Nat) (P : Nat → Int32), k + m = 26600 → 665 ≤ k → m < fu → P = shP (N.1 (t + 15)) k → lop2 fu (l_X11_keep_13 t J) (Int32.ofNat k) (rset N (t + 15) P) = J (wi (rset N (t + 15) (shP (N.1 (t + 15)) 26600)) t 31 (Int32.ofNat 39)) := by
  intro m
  induction m with
  | zero =>
    intro k fu P hk h6 hf hP
    obtain ⟨fu, rfl⟩ : ∃ q, fu = q + 1 := ⟨fu - 1, by omega⟩
    obtain rfl : k = 26600 := by omega
    subst hP
    have e : l_X11_keep_13 t J (Int32.ofNat 26600) (rset N (t + 15) (shP (N.1 (t + 15)) 26600)) = up (J (wi (rset N (t + 15) (shP (N.1 (t + 15)) 26600)) t 31 (Int32.ofNat 39))) := by
      unfold l_X11_keep_13 nm
      rw [if_pos (by decide), rset_ne (show ¬ t = t + 15 by omega), h31]
      rfl
    cases hJ : J (wi (rset N (t + 15) (shP (N.1 (t + 15)) 26600)) t 31 (Int32.ofNat 39)) with
    | none =>
      rw [hJ] at e
      simp only [lop2, e]
      rfl
    | some q =>
      rw [hJ] at e
      exact lop2_inr e
  | succ m ih =>
    intro k fu P hk h6 hf hP
    obtain ⟨fu, rfl⟩ : ∃ q, fu = q + 1 := ⟨fu - 1, by omega⟩
    have i665' : Int32.ofNat k - 665 = Int32.ofNat (k - 665) := by
      have := Int32.ofNat_sub k 665 h6
      rw [this]
      rfl
    have e : l_X11_keep_13 t J (Int32.ofNat k) (rset N (t + 15) P) = some (.inl (Int32.ofNat (k + 1), rset N (t + 15) (rup P (k - 665) (P k)))) := by
      refine Wp.eq ?_
      unfold l_X11_keep_13
      refine Wp.ng (i64_lt (n := 26600) (by decide) (by omega)) ?_
      rw [i665', i_nn (show k < 2 ^ 31 by omega), i_nn (show k - 665 < 2 ^ 31 by omega)]
      refine Wp.gi (i_rng (by omega) (by decide)) (Wp.gi (i_rng (by omega) (by decide)) (Wp.nam (Wp.nam ?_)))
      rw [rset_rd, wi_rset, i_ad1]
      exact Wp.ret rfl
    rw [lop2_inl e]
    refine ih (k + 1) fu _ (by omega) (by omega) (by omega) ?_
    subst hP
    have e : k - 665 + 665 = k := by omega
    have g2 : shP (N.1 (t + 15)) (k + 1) (k - 665) = N.1 (t + 15) k := by
      unfold shP
      rw [if_pos (show k - 665 + 665 < k + 1 by omega), e]
    have g3 : shP (N.1 (t + 15)) k k = N.1 (t + 15) k := by
      unfold shP
      rw [if_neg (show ¬ k + 665 < k by omega)]
    funext j
    by_cases h1 : j = k - 665
    · rw [h1, rup_s, g2, g3]
    · rw [rup_o h1]
      unfold shP
      by_cases h2 : j + 665 < k
      · rw [if_pos h2, if_pos (show j + 665 < k + 1 by omega)]
      · rw [if_neg h2, if_neg (show ¬ j + 665 < k + 1 by omega)]
/-- the model keeps: its row behind the others -/
theorem e_keep {t n : Nat} {N : Mem} (hn : n < 40) (h31 : N.1 t 31 = Int32.ofNat n) : f_X11_keep t N = some ((), wi (rset N (t + 15) (blkP (N.1 (t + 15)) (N.1 (t + 8)) n 665)) t 31 (Int32.ofNat (n + 1))) := by
  refine Wp.eq ?_
  unfold f_X11_keep
  have hne : ¬ N.1 t 31 = 40 := fun e => by
    rw [h31] at e
    have e2 := congrArg Int32.toInt e
    rw [Int32.toInt_ofNat_of_lt (by omega)] at e2
    have e3 : (40 : Int32).toInt = 40 := rfl
    rw [e3] at e2
    omega
  refine Wp.j1 (Wp.ng hne ?_)
  have h := keep_loop (N := N) hn h31 665 0 FU (N.1 (t + 15)) (by omega) (by unfold FU; omega) (by funext j; unfold blkP; rw [if_neg (by omega)])
  rw [rset_get] at h
  exact ⟨_, h, rfl⟩
theorem e_keep40 {t : Nat} {N : Mem} (h31 : N.1 t 31 = Int32.ofNat 40) : f_X11_keep t N = some ((), wi (rset N (t + 15) (blkP (shP (N.1 (t + 15)) 26600) (N.1 (t + 8)) 39 665)) t 31 (Int32.ofNat 40)) := by
  refine Wp.eq ?_
  unfold f_X11_keep
  refine Wp.j1 (Wp.ps (by rw [h31]; rfl) ?_)
  have h := shift_loop (N := N) (t := t) (J := fun M1 => lop2 FU (l_X11_keep_56 t) (0 : Int32) M1) h31 (26600 - 665) 665 FU (N.1 (t + 15)) (by omega) (Nat.le_refl _) (by unfold FU; omega) (by funext j; unfold shP; rw [if_neg (by omega)])
  rw [rset_get] at h
  refine ⟨_, h.trans ?_, rfl⟩
  have hk := keep_loop (N := wi (rset N (t + 15) (shP (N.1 (t + 15)) 26600)) t 31 (Int32.ofNat 39)) (n := 39) (by decide) wi_hit 665 0 FU (shP (N.1 (t + 15)) 26600) (by omega) (by unfold FU; omega) (by
    funext j
    unfold blkP
    rw [if_neg (by omega), wi_rwo (by omega), rset_rf])
  have e0 : rset (wi (rset N (t + 15) (shP (N.1 (t + 15)) 26600)) t 31 (Int32.ofNat 39)) (t + 15) (shP (N.1 (t + 15)) 26600) = wi (rset N (t + 15) (shP (N.1 (t + 15)) 26600)) t 31 (Int32.ofNat 39) := by
    refine Mem.ext' (fun b j => ?_) rfl
    simp only [rset, wi]
    by_cases h : b = t + 15
    · subst h
      simp
    · simp [h]
  rw [e0] at hk
  refine hk.trans ?_
  rw [wi_rwo (show ¬ t + 15 = t by omega), rset_rf, wi_rwo (show ¬ t + 8 = t by omega), rset_nf (show ¬ t + 8 = t + 15 by omega)]
  have fin : ∀ B : Nat → Int32, wi (rset (wi (rset N (t + 15) (shP (N.1 (t + 15)) 26600)) t 31 (Int32.ofNat 39)) (t + 15) B) t 31 (Int32.ofNat (39 + 1)) = wi (rset N (t + 15) B) t 31 (Int32.ofNat 40) := fun B => by
    refine Mem.ext' (fun b j => ?_) rfl
    by_cases h2 : b = t ∧ j = 31
    · rw [h2.1, h2.2, wi_hit, wi_hit]
    · simp only [wi, if_neg h2]
      by_cases h : b = t + 15
      · rw [h, rset_rd, rset_rd]
      · rw [rset_ne h, rset_ne h]
        simp only [wi, if_neg h2]
        rw [rset_ne h]
  rw [fin]
