/-! The model: level, steering, playing. -/
/-- the slots' facts that LEVEL needs -/
def SF (z : Int32) (r : Nat → Int32) : Prop := 0 ≤ (r 14 / z).toInt ∧ (∀ k, k < 64 → ¬ r (153 + k) = -1 → (r (217 + k)).toInt ≤ (r 18).toInt) ∧ ((r 14 / z).toInt ≤ (r 18).toInt → ∃ k, k < 64 ∧ ¬ r (153 + k) = -1 ∧ r (217 + k) = r 18)
def levR (z : Int32) (r : Nat → Int32) : Int32 := if r 8 = 0 then 0 else if r 14 / z ≤ r 18 then (r 18 + 1) * z - r 14 else 0
theorem i153 {k : Nat} : (153 : Int32) + Int32.ofNat k = Int32.ofNat (153 + k) := i_ad (a := 153)
theorem i217 {k : Nat} : (217 : Int32) + Int32.ofNat k = Int32.ofNat (217 + k) := i_ad (a := 217)
theorem i64_lt {k n : Nat} (hn : n < 2 ^ 31) (hk : k < n) : ¬ Int32.ofNat n ≤ Int32.ofNat k := fun h => by
  have := (i_le (by omega) (by omega)).mp h
  omega
theorem ti_max {a b : Int32} : (imax a b).toInt = if a.toInt < b.toInt then b.toInt else a.toInt := by
  unfold imax
  by_cases h : a < b
  · rw [if_pos h, if_pos (Int32.lt_iff_toInt_lt.mp h)]
  · rw [if_neg h, if_neg (fun g => h (Int32.lt_iff_toInt_lt.mpr g))]
theorem lev_loop {N : Mem} {t : Nat} {r : Nat → Int32} {z : Int32} (hz : N.1 (t + 3) 0 = z) (h8 : ¬ r 8 = 0) (hS : SF z r) : ∀ (n k fu : Nat) (a : Int32), k + n = 64 → n < fu → (a = -1 ∨ ((r 14 / z).toInt ≤ a.toInt ∧ a.toInt ≤ (r 18).toInt)) → (∀ j, j < k → ¬ r (153 + j) = -1 → (r 14 / z).toInt ≤ (r (217 + j)).toInt → (r (217 + j)).toInt ≤ a.toInt) → lop3 fu (l_X11_levelNow_9 t (r 14 / z)) a (Int32.ofNat k) (rset N (t + 8) r) = some (levR z r, rset N (t + 8) r) := by
  obtain ⟨s0, s1, s2⟩ := hS
  intro n
  induction n with
  | zero =>
    intro k fu a hk hf ha hj
    obtain ⟨fu, rfl⟩ : ∃ q, fu = q + 1 := ⟨fu - 1, by omega⟩
    obtain rfl : k = 64 := by omega
    refine lop3_inr ?_
    refine Wp.eq ?_
    unfold l_X11_levelNow_9
    refine Wp.j0 ?_
    refine Wp.ps (by decide) ?_
    refine Wp.j1 ?_
    unfold levR
    rw [if_neg h8]
    by_cases hle : (r 14 / z).toInt ≤ (r 18).toInt
    · rw [if_pos (Int32.le_iff_toInt_le.mpr hle)]
      obtain ⟨k, hk1, hk2, hk3⟩ := s2 hle
      have h9 := hj k hk1 hk2 (by rw [hk3]; exact hle)
      rw [hk3] at h9
      have hne : ¬ a = -1 := fun e => by
        subst e
        have e1 : (-1 : Int32).toInt = -1 := rfl
        omega
      have h10 := ha.resolve_left hne
      obtain rfl : a = r 18 := Int32.toInt_inj.mp (by omega)
      refine Wp.ng hne ?_
      rw [rset_ne (show ¬ t + 3 = t + 8 by omega), hz, rset_rd]
      exact Wp.ret rfl
    · rw [if_neg (fun h => hle (Int32.le_iff_toInt_le.mp h))]
      have hne : a = -1 := by
        rcases ha with h | h
        · exact h
        · omega
      refine Wp.ps hne ?_
      exact Wp.ret rfl
  | succ n ih =>
    intro k fu a hk hf ha hj
    obtain ⟨fu, rfl⟩ : ∃ q, fu = q + 1 := ⟨fu - 1, by omega⟩
    have step : ∀ a' : Int32, (a' = -1 ∨ ((r 14 / z).toInt ≤ a'.toInt ∧ a'.toInt ≤ (r 18).toInt)) → a.toInt ≤ a'.toInt → (¬ r (153 + k) = -1 → (r 14 / z).toInt ≤ (r (217 + k)).toInt → (r (217 + k)).toInt ≤ a'.toInt) → l_X11_levelNow_9 t (r 14 / z) a (Int32.ofNat k) (rset N (t + 8) r) = some (.inl (a', Int32.ofNat (k + 1), rset N (t + 8) r)) → lop3 (fu + 1) (l_X11_levelNow_9 t (r 14 / z)) a (Int32.ofNat k) (rset N (t + 8) r) = some (levR z r, rset N (t + 8) r) := by
      intro a' g1 g2 g3 e
      rw [lop3_inl e]
      refine ih (k + 1) fu a' (by omega) (by omega) g1 (fun j hj1 hj2 hj3 => ?_)
      by_cases hjk : j = k
      · subst hjk
        exact g3 hj2 hj3
      · have := hj j (by omega) hj2 hj3
        omega
    by_cases c1 : r (153 + k) = -1
    · refine step a ha (Int.le_refl _) (fun h => absurd c1 h) ?_
      refine Wp.eq ?_
      unfold l_X11_levelNow_9
      refine Wp.j0 ?_
      refine Wp.ng (i64_lt (n := 64) (by decide) (by omega)) ?_
      refine Wp.ng (by rw [rset_rd]; exact h8) ?_
      rw [i153]
      refine Wp.gi (i_rng (by omega) (by decide)) ?_
      refine Wp.j2 ?_
      refine Wp.ps (by rw [rset_rd, i_nn (by omega)]; exact c1) ?_
      refine Wp.nam ?_
      rw [i_ad1]
      exact Wp.ret rfl
    · by_cases c2 : r (217 + k) < r 14 / z
      · have c3 := Int32.lt_iff_toInt_lt.mp c2
        refine step a ha (Int.le_refl _) (fun _ h => by omega) ?_
        refine Wp.eq ?_
        unfold l_X11_levelNow_9
        refine Wp.j0 ?_
        refine Wp.ng (i64_lt (n := 64) (by decide) (by omega)) ?_
        refine Wp.ng (by rw [rset_rd]; exact h8) ?_
        rw [i153, i217]
        refine Wp.gi (i_rng (by omega) (by decide)) ?_
        refine Wp.j2 ?_
        refine Wp.ng (by rw [rset_rd, i_nn (by omega)]; exact c1) ?_
        refine Wp.gi (i_rng (by omega) (by decide)) ?_
        refine Wp.ps (by rw [rset_rd, i_nn (by omega)]; exact c2) ?_
        refine Wp.nam ?_
        rw [i_ad1]
        exact Wp.ret rfl
      · have c3 : ¬ (r (217 + k)).toInt < (r 14 / z).toInt := fun h => c2 (Int32.lt_iff_toInt_lt.mpr h)
        have hm := ti_max (a := a) (b := r (217 + k))
        have hs1 := s1 k (by omega) c1
        refine step (imax a (r (217 + k))) (Or.inr ?_) ?_ (fun _ _ => ?_) ?_
        · rcases ha with h | h
          · have e1 : (-1 : Int32).toInt = -1 := rfl
            rw [h, e1] at hm
            rw [h]
            omega
          · split at hm <;> omega
        · split at hm <;> omega
        · split at hm <;> omega
        · refine Wp.eq ?_
          unfold l_X11_levelNow_9
          refine Wp.j0 ?_
          refine Wp.ng (i64_lt (n := 64) (by decide) (by omega)) ?_
          refine Wp.ng (by rw [rset_rd]; exact h8) ?_
          rw [i153, i217]
          refine Wp.gi (i_rng (by omega) (by decide)) ?_
          refine Wp.j2 ?_
          refine Wp.ng (by rw [rset_rd, i_nn (by omega)]; exact c1) ?_
          refine Wp.gi (i_rng (by omega) (by decide)) ?_
          refine Wp.ng (by rw [rset_rd, i_nn (by omega)]; exact c2) ?_
          refine Wp.gi (i_rng (by omega) (by decide)) ?_
          refine Wp.cl (e_max _ _ _) ?_
          refine Wp.nam ?_
          rw [i_ad1, rset_rd, i_nn (by omega)]
          exact Wp.ret rfl
theorem m_level {N : Mem} {t : Nat} {r : Nat → Int32} {z : Int32} (hz : N.1 (t + 3) 0 = z) (hz0 : ¬ z = 0) (hS : ¬ r 8 = 0 → SF z r) : f_X11_levelNow t (rset N (t + 8) r) = some (levR z r, rset N (t + 8) r) := by
  unfold f_X11_levelNow
  rw [bd_eq (m_spot hz hz0)]
  by_cases h8 : r 8 = 0
  · refine Wp.eq ?_
    show Wp (lop3 (999999 + 1) (l_X11_levelNow_9 t (r 14 / z)) (-1 : Int32) (0 : Int32) (rset N (t + 8) r)) _
    refine Wp.l3 ?_
    unfold l_X11_levelNow_9
    refine Wp.j0 ?_
    refine Wp.ng (by decide) ?_
    refine Wp.ps (by rw [rset_rd]; exact h8) ?_
    refine Wp.j1 ?_
    refine Wp.ps rfl ?_
    refine Wp.ret ?_
    unfold levR
    rw [if_pos h8]
    rfl
  · exact lev_loop hz h8 (hS h8) 64 0 FU (-1) (by omega) (by unfold FU; omega) (Or.inl rfl) (fun j hj => absurd hj (by omega))
def empR (r : Nat → Int32) : Nat → Int32 := fun j => if 153 ≤ j ∧ j < 281 then -1 else r j
theorem emp_loop {N : Mem} {t : Nat} : ∀ (n k fu : Nat) (r : Nat → Int32), k + n = 64 → n < fu → lop2 fu (l_X11_emptySlots_2 t) (Int32.ofNat k) (rset N (t + 8) r) = some ((), rset N (t + 8) (fun j => if (153 + k ≤ j ∧ j < 217) ∨ (217 + k ≤ j ∧ j < 281) then -1 else r j)) := by
  intro n
  induction n with
  | zero =>
    intro k fu r hk hf
    obtain ⟨fu, rfl⟩ : ∃ q, fu = q + 1 := ⟨fu - 1, by omega⟩
    obtain rfl : k = 64 := by omega
    refine lop2_inr ?_
    unfold l_X11_emptySlots_2
    rw [if_pos (by decide)]
    have : (fun j => if (153 + 64 ≤ j ∧ j < 217) ∨ (217 + 64 ≤ j ∧ j < 281) then -1 else r j) = r := funext fun j => if_neg (by omega)
    rw [this]
  | succ n ih =>
    intro k fu r hk hf
    obtain ⟨fu, rfl⟩ : ∃ q, fu = q + 1 := ⟨fu - 1, by omega⟩
    have e : l_X11_emptySlots_2 t (Int32.ofNat k) (rset N (t + 8) r) = some (.inl (Int32.ofNat (k + 1), rset N (t + 8) (rup (rup r (153 + k) (-1)) (217 + k) (-1)))) := by
      refine Wp.eq ?_
      unfold l_X11_emptySlots_2
      refine Wp.ng (i64_lt (n := 64) (by decide) (by omega)) ?_
      rw [i153, i217]
      refine Wp.gi (i_rng (by omega) (by decide)) ?_
      refine Wp.nam ?_
      refine Wp.gi (i_rng (by omega) (by decide)) ?_
      refine Wp.nam (Wp.nam (Wp.ret ?_))
      rw [wi_rset, wi_rset, i_ad1, i_nn (by omega), i_nn (by omega)]
    rw [lop2_inl e, ih (k + 1) fu _ (by omega) (by omega)]
    have : (fun j => if (153 + (k + 1) ≤ j ∧ j < 217) ∨ (217 + (k + 1) ≤ j ∧ j < 281) then -1 else rup (rup r (153 + k) (-1)) (217 + k) (-1) j) = (fun j => if (153 + k ≤ j ∧ j < 217) ∨ (217 + k ≤ j ∧ j < 281) then -1 else r j) := funext fun j => by
      by_cases h1 : j = 153 + k
      · subst h1
        rw [if_neg (by omega), if_pos (by omega), rup_o (by omega), rup_s]
      · by_cases h2 : j = 217 + k
        · subst h2
          rw [if_neg (by omega), if_pos (by omega), rup_s]
        · rw [rup_o h2, rup_o h1]
          by_cases h3 : (153 + k ≤ j ∧ j < 217) ∨ (217 + k ≤ j ∧ j < 281)
          · rw [if_pos h3, if_pos (by omega)]
          · rw [if_neg h3, if_neg (by omega)]
    rw [this]
theorem m_empty {N : Mem} {t : Nat} {r : Nat → Int32} : f_X11_emptySlots t (rset N (t + 8) r) = some ((), rset N (t + 8) (empR r)) := by
  have h := emp_loop (N := N) (t := t) 64 0 FU r (by omega) (by unfold FU; omega)
  have e : (fun j => if (153 + 0 ≤ j ∧ j < 217) ∨ (217 + 0 ≤ j ∧ j < 281) then -1 else r j) = empR r := funext fun j => by
    unfold empR
    by_cases h3 : 153 ≤ j ∧ j < 281
    · rw [if_pos h3, if_pos (by omega)]
    · rw [if_neg h3, if_neg (by omega)]
  rw [e] at h
  exact h
theorem e_mwithin (a b c : Int32) (M : Mem) : f_X11_within a b c M = some (imax b (imin c a), M) := by
  unfold f_X11_within
  rw [bd_eq (e_min _ _ _), bd_eq (e_max _ _ _)]
def smpI (r : Nat → Int32) : Nat := ((281 : Int32) + (r 32 - r 32 / 128 * 128)).toNatClampNeg
def st1R (z : Int32) (r : Nat → Int32) : Nat → Int32 := if r 8 = 1 then (if levR z r < r 29 then r else rup (rup (rup (rup (rup r 8 2) 23 0) 10 0) 9 0) 11 0) else r
def st2R (p i y : Int32) (r : Nat → Int32) : Nat → Int32 :=
  let r2 := rup r 10 (imax (-3200) (imin 3200 (r 10 + i * y)))
  let r3 := rup r2 9 (imax (-200) (imin 200 ((p * y + r2 10) / 16)))
  let r4 := rup r3 ((281 : Int32) + (r3 32 - r3 32 / 128 * 128)).toNatClampNeg (r3 11)
  rup r4 32 (r4 32 + 1)
def stR (z e p i : Int32) (r : Nat → Int32) : Nat → Int32 := if st1R z r 8 = 2 then (if st1R z r 0 - st1R z r 0 / e * e = 0 then st2R p i (levR z r - st1R z r 29) (st1R z r) else st1R z r) else st1R z r
theorem rem128 {c x : Int32} {a : Int} (hc : c.toInt = a) (h0 : 0 ≤ a) (h1 : a ≤ 537) (hx : 0 ≤ x.toInt) : 0 ≤ (c + (x - x / 128 * 128)).toInt ∧ (c + (x - x / 128 * 128)).toInt < ((665 : Nat) : Int) := by
  have hn := ti_rem (a := x) (b := 128) hx (by decide)
  have e : (128 : Int32).toInt = 128 := rfl
  rw [e] at hn
  rw [idx_rng hc h0 (by omega) (by omega) (by omega)]
  omega
theorem m_steer {N : Mem} {t : Nat} {r : Nat → Int32} {z e : Int32} (hz : N.1 (t + 3) 0 = z) (hz0 : ¬ z = 0) (he : N.1 (t + 3) 4 = e) (he0 : ¬ e = 0) (hS : ¬ r 8 = 0 → SF z r) (h32 : 0 ≤ (r 32).toInt) : f_X11_steer t (rset N (t + 8) r) = some ((), rset N (t + 8) (stR z e (N.1 t 24) (N.1 t 25) r)) := by
  refine Wp.eq ?_
  unfold f_X11_steer
  refine Wp.cl (m_level hz hz0 hS) ?_
  refine Wp.j1 ?_
  have tl : ∀ r1 : Nat → Int32, r1 = st1R z r → Wp (jn0 (fun _ => some ((), rset N (t + 8) r1)) (fun J94 => if ((rset N (t + 8) r1).1 (t + 8) 8) = (2 : Int32) then (gdp (¬ ((rset N (t + 8) r1).1 (t + 3) 4) = 0) (if (((rset N (t + 8) r1).1 (t + 8) 0) - ((rset N (t + 8) r1).1 (t + 8) 0) / ((rset N (t + 8) r1).1 (t + 3) 4) * ((rset N (t + 8) r1).1 (t + 3) 4)) = 0 then (nm (levR z r - ((rset N (t + 8) r1).1 (t + 8) 29)) (fun y4 => bd (f_X11_within (((rset N (t + 8) r1).1 (t + 8) 10) + (((rset N (t + 8) r1).1 t 25) * y4)) (-3200 : Int32) (3200 : Int32) (rset N (t + 8) r1)) (fun u5 M6 => nm (wi M6 (t + 8) 10 u5) (fun M7 => bd (f_X11_within ((((M7.1 t 24) * y4) + (M7.1 (t + 8) 10)) / (16 : Int32)) (-200 : Int32) (200 : Int32) M7) (fun u8 M9 => nm (wi M9 (t + 8) 9 u8) (fun M10 => gdi ((281 : Int32) + ((M10.1 (t + 8) 32) - (M10.1 (t + 8) 32) / (128 : Int32) * (128 : Int32))) 665 (nm (wi M10 (t + 8) ((281 : Int32) + ((M10.1 (t + 8) 32) - (M10.1 (t + 8) 32) / (128 : Int32) * (128 : Int32))).toNatClampNeg (M10.1 (t + 8) 11)) (fun M11 => nm (wi M11 (t + 8) 32 ((M11.1 (t + 8) 32) + (1 : Int32))) (fun M12 => some ((), M12)))))))))) else (J94 ()))) else (J94 ()))) (fun q => q = ((), rset N (t + 8) (stR z e (N.1 t 24) (N.1 t 25) r))) := by
    intro r1 hr1
    have h32' : r1 32 = r 32 := by
      rw [hr1]
      unfold st1R
      split
      · split
        · rfl
        · rw [rup_o (by omega), rup_o (by omega), rup_o (by omega), rup_o (by omega), rup_o (by omega)]
      · rfl
    rw [rset_rd, rset_ne (show ¬ t + 3 = t + 8 by omega), he, rset_rd]
    refine Wp.j0 ?_
    refine Wp.br (fun h => ?_) (fun h => ?_)
    · refine Wp.gp he0 ?_
      refine Wp.br (fun h2 => ?_) (fun h2 => ?_)
      · refine Wp.nam ?_
        refine Wp.cl (e_mwithin _ _ _ _) ?_
        refine Wp.nam ?_
        refine Wp.cl (e_mwithin _ _ _ _) ?_
        refine Wp.nam ?_
        rw [wi_rset, wi_rset]
        refine Wp.gi ?_ ?_
        · rw [rset_rd, rup_o (by omega), rup_o (by omega), h32']
          exact rem128 (a := 281) rfl (by decide) (by decide) h32
        · refine Wp.nam (Wp.nam (Wp.ret ?_))
          unfold stR
          rw [← hr1, if_pos h, if_pos h2]
          simp only [wi_rset, rset_rd, rset_ne (show ¬ t = t + 8 by omega)]
          rfl
      · refine Wp.ret ?_
        unfold stR
        rw [← hr1, if_pos h, if_neg h2]
    · refine Wp.ret ?_
      unfold stR
      rw [← hr1, if_neg h]
  refine Wp.br (fun h => ?_) (fun h => ?_)
  · rw [rset_rd] at h
    refine Wp.br (fun h2 => ?_) (fun h2 => ?_)
    · rw [rset_rd] at h2
      exact tl r (by unfold st1R; rw [if_pos h, if_pos h2])
    · rw [rset_rd] at h2
      refine Wp.nam (Wp.nam (Wp.nam (Wp.nam (Wp.nam ?_))))
      rw [wi_rset, wi_rset, wi_rset, wi_rset, wi_rset]
      exact tl _ (by unfold st1R; rw [if_pos h, if_neg h2])
  · rw [rset_rd] at h
    exact tl r (by unfold st1R; rw [if_neg h])
