/-! feed -/
def bt (v : Int32) (i : Nat) : Int32 := (v >>> (Int32.ofNat (24 - 8 * i) &&& 31)) &&& 255
theorem shr_and (v : Int32) (s : Nat) (hs : s ≤ 24) : (v.toBitVec >>> s) &&& 255#32 = (v.toBitVec.sshiftRight s) &&& 255#32 := by
  apply BitVec.eq_of_getLsbD_eq
  intro j hj
  rw [BitVec.getLsbD_and, BitVec.getLsbD_and]
  by_cases h8 : j < 8
  · rw [BitVec.getLsbD_ushiftRight, BitVec.getLsbD_sshiftRight]
    have h1 : ¬ 32 ≤ j := by omega
    have h2 : s + j < 32 := by omega
    simp [h1, h2]
  · have h3 : (255#32).getLsbD j = false := Nat.testBit_lt_two_pow (Nat.lt_of_lt_of_le (by decide : (255#32).toNat < 2 ^ 8) (Nat.pow_le_pow_right (by decide) (by omega)))
    rw [h3, Bool.and_false, Bool.and_false]
theorem byte_eq {v : Int32} {i : Nat} (hi : i < 4) : ((v.toUInt32 >>> ((Int32.ofNat (24 - 8 * i)).toUInt32 &&& Int32.toUInt32 31)).toInt32) &&& (255 : Int32) = bt v i := by
  have hi' : i = 0 ∨ i = 1 ∨ i = 2 ∨ i = 3 := by omega
  unfold bt
  refine Int32.toBitVec_inj.mp ?_
  rcases hi' with e | e | e | e <;> subst e
  · exact shr_and v 24 (by decide)
  · exact shr_and v 16 (by decide)
  · exact shr_and v 8 (by decide)
  · exact shr_and v 0 (by decide)
theorem bt_rng {v : Int32} {i : Nat} : 0 ≤ (bt v i).toInt ∧ (bt v i).toInt ≤ 255 := by
  unfold bt
  rw [ti_and255]
  omega
def selF (a b c d e : Int32) (q : Nat) : Int32 := if q = 0 then a else if q = 1 then b else if q = 2 then c else if q = 3 then d else e
/-- q ints are on the class's tape, behind K bytes -/
def TQ (x K : Nat) (f : Nat → Int32) (M0 : Mem) (n : Nat) (M : Mem) : Prop := M.1 (x + 1) 1 = Int32.ofNat (K + n) ∧ (∀ j, j < n → M.1 (x + 2) (K + j) = bt (f (j / 4)) (j % 4)) ∧ (∀ j, j < K → M.1 (x + 2) j = M0.1 (x + 2) j) ∧ (∀ b k, ¬ (b = x + 1 ∧ k = 1) → ¬ b = x + 2 → M.1 b k = M0.1 b k) ∧ M.2 = M0.2
theorem TQ.put {x K n : Nat} {f : Nat → Int32} {M0 M : Mem} (h : TQ x K f M0 n M) : TQ x K f M0 (n + 1) (wi (wi M (x + 2) (K + n) (bt (f (n / 4)) (n % 4))) (x + 1) 1 (Int32.ofNat (K + (n + 1)))) := by
  obtain ⟨h1, h2, h3, h4, h5⟩ := h
  refine ⟨wi_hit, fun j hj => ?_, fun j hj => ?_, fun b k q1 q2 => ?_, h5⟩
  · rw [wi_rwo (by omega)]
    by_cases e : j = n
    · subst e
      rw [wi_hit]
    · rw [wi_sl (by omega)]
      exact h2 j (by omega)
  · rw [wi_rwo (by omega), wi_sl (by omega)]
    exact h3 j hj
  · have : (wi (wi M (x + 2) (K + n) (bt (f (n / 4)) (n % 4))) (x + 1) 1 (Int32.ofNat (K + (n + 1)))).1 b k = M.1 b k := by
      simp only [wi]
      rw [if_neg q1, if_neg (by omega)]
    rw [this]
    exact h4 b k q1 q2
theorem add_step {x K n i : Nat} {f : Nat → Int32} {v : Int32} {M0 M : Mem} (h : TQ x K f M0 n M) (hK : K + 20 ≤ 700) (hn : n < 20) (hi : i < 4) (hni : n % 4 = i) (hv : v = f (n / 4)) : ∃ M', l_X6_addBytes_3 (x + 1) v (Int32.ofNat (24 - 8 * i)) M = some (.inl (Int32.ofNat (24 - 8 * i) + -8, M')) ∧ TQ x K f M0 (n + 1) M' := by
  refine ⟨_, Wp.eq ?_, h.put⟩
  unfold l_X6_addBytes_3
  refine Wp.ng (fun g => by have := (i_lt (a := 24 - 8 * i) (b := 0) (by omega) (by omega)).mp g; omega) ?_
  rw [h.1, byte_eq hi]
  refine Wp.cl (put_nat (by omega) (by decide)) (Wp.nam ?_)
  rw [wi_rwo (show ¬ x + 1 = x + 1 + 1 by omega), h.1, i_ad1, hv, ← hni]
  exact Wp.nam (Wp.ret rfl)
theorem add_ok {x K q : Nat} {f : Nat → Int32} {v : Int32} {M0 M : Mem} (h : TQ x K f M0 (4 * q) M) (hK : K + 20 ≤ 700) (hq : q < 5) (hv : v = f q) : ∃ M', f_X6_addBytes (x + 1) v M = some ((), M') ∧ TQ x K f M0 (4 * (q + 1)) M' := by
  obtain ⟨M1, a1, t1⟩ := add_step (i := 0) (v := v) h hK (by omega) (by decide) (by omega) (by rw [hv]; congr 1; omega)
  obtain ⟨M2, a2, t2⟩ := add_step (i := 1) (v := v) t1 hK (by omega) (by decide) (by omega) (by rw [hv]; congr 1; omega)
  obtain ⟨M3, a3, t3⟩ := add_step (i := 2) (v := v) t2 hK (by omega) (by decide) (by omega) (by rw [hv]; congr 1; omega)
  obtain ⟨M4, a4, t4⟩ := add_step (i := 3) (v := v) t3 hK (by omega) (by decide) (by omega) (by rw [hv]; congr 1; omega)
  have e : 4 * q + 1 + 1 + 1 + 1 = 4 * (q + 1) := by omega
  rw [e] at t4
  refine ⟨M4, ?_, t4⟩
  have last : l_X6_addBytes_3 (x + 1) v (-8) M4 = some (.inr ((), M4)) := by
    refine Wp.eq ?_
    unfold l_X6_addBytes_3
    exact Wp.ps (by decide) (Wp.ret rfl)
  show lop2 (999995 + 1 + 1 + 1 + 1 + 1) (l_X6_addBytes_3 (x + 1) v) 24 M = some ((), M4)
  exact (lop2_inl a1).trans ((lop2_inl a2).trans ((lop2_inl a3).trans ((lop2_inl a4).trans (lop2_inr last))))
/-- the same, of the model's -/
def TM (t K : Nat) (f : Nat → Int32) (N0 : Mem) (n : Nat) (N : Mem) : Prop := N.1 t 12 = Int32.ofNat (K + n) ∧ (∀ j, j < n → N.1 (t + 9) (K + j) = bt (f (j / 4)) (j % 4)) ∧ (∀ j, j < K → N.1 (t + 9) j = N0.1 (t + 9) j) ∧ (∀ b k, ¬ (b = t ∧ k = 12) → ¬ b = t + 9 → N.1 b k = N0.1 b k) ∧ N.2 = N0.2
theorem TM.put {t K n : Nat} {f : Nat → Int32} {M0 M : Mem} (h : TM t K f M0 n M) : TM t K f M0 (n + 1) (wi (wi M (t + 9) (K + n) (bt (f (n / 4)) (n % 4))) t 12 (Int32.ofNat (K + (n + 1)))) := by
  obtain ⟨h1, h2, h3, h4, h5⟩ := h
  refine ⟨wi_hit, fun j hj => ?_, fun j hj => ?_, fun b k q1 q2 => ?_, h5⟩
  · rw [wi_rwo (by omega)]
    by_cases e : j = n
    · subst e
      rw [wi_hit]
    · rw [wi_sl (by omega)]
      exact h2 j (by omega)
  · rw [wi_rwo (by omega), wi_sl (by omega)]
    exact h3 j hj
  · have : (wi (wi M (t + 9) (K + n) (bt (f (n / 4)) (n % 4))) t 12 (Int32.ofNat (K + (n + 1)))).1 b k = M.1 b k := by
      simp only [wi]
      rw [if_neg q1, if_neg (by omega)]
    rw [this]
    exact h4 b k q1 q2
theorem sh_of : ∀ k, k < 20 → (24 : Int32) - (8 : Int32) * (Int32.ofNat k - Int32.ofNat k / 4 * 4) = Int32.ofNat (24 - 8 * (k % 4)) := by decide +kernel
theorem feed_loop {t K : Nat} {a b c d e : Int32} {N0 : Mem} (hK : K + 20 ≤ 700) : ∀ (m k fu : Nat) (N : Mem), k + m = 20 → m < fu → TM t K (selF a b c d e) N0 k N → ∃ N', lop2 fu (l_X11_feed_23 t a b c d e) (Int32.ofNat k) N = some (Int32.ofNat (K + 20), N') ∧ TM t K (selF a b c d e) N0 20 N' := by
  intro m
  induction m with
  | zero =>
    intro k fu N hk hf h
    obtain ⟨fu, rfl⟩ : ∃ q, fu = q + 1 := ⟨fu - 1, by omega⟩
    obtain rfl : k = 20 := by omega
    refine ⟨N, lop2_inr (Wp.eq ?_), h⟩
    unfold l_X11_feed_23
    rw [h.1]
    exact Wp.ps (by decide) (Wp.ret rfl)
  | succ m ih =>
    intro k fu N hk hf h
    obtain ⟨fu, rfl⟩ : ∃ q, fu = q + 1 := ⟨fu - 1, by omega⟩
    have fin : ∀ z, z = selF a b c d e (k / 4) → Wp (gdi (N.1 t 12) 700 (nm (wi N (t + 9) (N.1 t 12).toNatClampNeg ((z >>> (((24 : Int32) - ((8 : Int32) * (Int32.ofNat k - Int32.ofNat k / (4 : Int32) * (4 : Int32)))) &&& 31)) &&& (255 : Int32))) (fun M5 => nm (wi M5 t 12 ((M5.1 t 12) + (1 : Int32))) (fun M6 => nm (Int32.ofNat k + (1 : Int32)) (fun y7 => some (.inl (y7, M6))))))) (fun q => q = (.inl (Int32.ofNat (k + 1), wi (wi N (t + 9) (K + k) (bt (selF a b c d e (k / 4)) (k % 4))) t 12 (Int32.ofNat (K + (k + 1)))) : (Int32 × Mem) ⊕ (Int32 × Mem))) := fun z hz => by
      rw [h.1, sh_of k (by omega), hz]
      refine Wp.gi (i_rng (by omega) (by decide)) ?_
      rw [i_nn (by omega)]
      refine Wp.nam ?_
      have e1 : (wi N (t + 9) (K + k) ((selF a b c d e (k / 4) >>> (Int32.ofNat (24 - 8 * (k % 4)) &&& 31)) &&& 255)).1 t 12 = Int32.ofNat (K + k) := by rw [wi_rwo (by omega)]; exact h.1
      rw [e1, i_ad1, i_ad1]
      exact Wp.nam (Wp.nam (Wp.ret rfl))
    have b1 : l_X11_feed_23 t a b c d e (Int32.ofNat k) N = some (.inl (Int32.ofNat (k + 1), wi (wi N (t + 9) (K + k) (bt (selF a b c d e (k / 4)) (k % 4))) t 12 (Int32.ofNat (K + (k + 1))))) := by
      refine Wp.eq ?_
      unfold l_X11_feed_23
      refine Wp.ng (fun g => by have := (i_le (a := 20) (b := k) (by omega) (by omega)).mp g; omega) (Wp.j1 ?_)
      have i4 := i_le (a := 4) (b := k) (by omega) (by omega)
      have i8 := i_le (a := 8) (b := k) (by omega) (by omega)
      have i12 := i_le (a := 12) (b := k) (by omega) (by omega)
      have i16 := i_le (a := 16) (b := k) (by omega) (by omega)
      by_cases g4 : 4 ≤ k
      · by_cases g8 : 8 ≤ k
        · by_cases g12 : 12 ≤ k
          · by_cases g16 : 16 ≤ k
            · refine Wp.ps (i4.mpr g4) (Wp.ps (i8.mpr g8) (Wp.ps (i12.mpr g12) (Wp.ps (i16.mpr g16) (fin e ?_))))
              have : k / 4 = 4 := by omega
              rw [this]; rfl
            · refine Wp.ps (i4.mpr g4) (Wp.ps (i8.mpr g8) (Wp.ps (i12.mpr g12) (Wp.ng (fun q => g16 (i16.mp q)) (fin d ?_))))
              have : k / 4 = 3 := by omega
              rw [this]; rfl
          · refine Wp.ps (i4.mpr g4) (Wp.ps (i8.mpr g8) (Wp.ng (fun q => g12 (i12.mp q)) (fin c ?_)))
            have : k / 4 = 2 := by omega
            rw [this]; rfl
        · refine Wp.ps (i4.mpr g4) (Wp.ng (fun q => g8 (i8.mp q)) (fin b ?_))
          have : k / 4 = 1 := by omega
          rw [this]; rfl
      · refine Wp.ng (fun q => g4 (i4.mp q)) (fin a ?_)
        have : k / 4 = 0 := by omega
        rw [this]; rfl
    obtain ⟨N', r1, r2⟩ := ih (k + 1) fu _ (by omega) (by omega) h.put
    exact ⟨N', (lop2_inl b1).trans r1, r2⟩
/-- the tapes are alike -/
def TPE (x : Nat) (M N : Mem) : Prop := ∃ k : Nat, k ≤ 700 ∧ M.1 (x + 1) 1 = Int32.ofNat k ∧ N.1 (x + 95) 12 = Int32.ofNat k ∧ ∀ j, j < k → M.1 (x + 2) j = N.1 (x + 95 + 9) j ∧ 0 ≤ (M.1 (x + 2) j).toInt ∧ (M.1 (x + 2) j).toInt ≤ 255
theorem feed_ok {x : Nat} {a b c d e : Int32} {M N : Mem} (h : TPE x M N) : ∃ v M' N', f_X10_feed x a b c d e M = some (v, M') ∧ f_X11_feed (x + 95) a b c d e N = some (v, N') ∧ TPE x M' N' ∧ (∀ b k, ¬ (b = x + 1 ∧ k = 1) → ¬ b = x + 2 → M'.1 b k = M.1 b k) ∧ M'.2 = M.2 ∧ (∀ b k, ¬ (b = x + 95 ∧ (k = 2 ∨ k = 12)) → ¬ b = x + 95 + 9 → N'.1 b k = N.1 b k) ∧ N'.2 = N.2 := by
  obtain ⟨k, hk, h1, h2, h3⟩ := h
  have hw : ∀ b j, ¬ (b = x + 95 ∧ j = 2) → (wi N (x + 95) 2 0).1 b j = N.1 b j := fun b j q => by
    simp only [wi]
    rw [if_neg q]
  have e12 : (wi N (x + 95) 2 0).1 (x + 95) 12 = Int32.ofNat k := by rw [hw _ _ (by omega)]; exact h2
  have hcond : Int32.ofNat k + 20 ≤ 700 ↔ k + 20 ≤ 700 := by
    have : Int32.ofNat k + 20 = Int32.ofNat (k + 20) := i_ad (k := 20)
    rw [this]
    exact i_le (a := k + 20) (b := 700) (by omega) (by omega)
  by_cases hc : k + 20 ≤ 700
  · have t0 : TQ x k (selF a b c d e) M (4 * 0) M := ⟨h1, fun j hj => absurd hj (Nat.not_lt_zero _), fun _ _ => rfl, fun _ _ _ _ => rfl, rfl⟩
    obtain ⟨M1, a1, t1⟩ := add_ok (v := a) t0 hc (by decide) rfl
    obtain ⟨M2, a2, t2⟩ := add_ok (v := b) t1 hc (by decide) rfl
    obtain ⟨M3, a3, t3⟩ := add_ok (v := c) t2 hc (by decide) rfl
    obtain ⟨M4, a4, t4⟩ := add_ok (v := d) t3 hc (by decide) rfl
    obtain ⟨M5, a5, t5⟩ := add_ok (v := e) t4 hc (by decide) rfl
    have m0 : TM (x + 95) k (selF a b c d e) (wi N (x + 95) 2 0) 0 (wi N (x + 95) 2 0) := ⟨e12, fun j hj => absurd hj (Nat.not_lt_zero _), fun _ _ => rfl, fun _ _ _ _ => rfl, rfl⟩
    obtain ⟨N5, b1, u5⟩ := feed_loop (N0 := wi N (x + 95) 2 0) hc 20 0 FU _ (by omega) (by unfold FU; omega) m0
    obtain ⟨p1, p2, p3, p4, p5⟩ := t5
    obtain ⟨q1, q2, q3, q4, q5⟩ := u5
    refine ⟨Int32.ofNat (k + 20), M5, N5, Wp.eq ?_, Wp.eq ?_, ⟨k + 20, hc, p1, q1, fun j hj => ?_⟩, p4, p5, fun b j g1 g2 => ?_, q5⟩
    · unfold f_X10_feed
      refine Wp.ps (by rw [h1]; exact hcond.mpr hc) (Wp.cl a1 (Wp.cl a2 (Wp.cl a3 (Wp.cl a4 (Wp.cl a5 (Wp.ret ?_))))))
      rw [p1]
    · unfold f_X11_feed
      refine Wp.nam (Wp.ps (by rw [e12]; exact hcond.mpr hc) ⟨_, b1, rfl⟩)
    · by_cases g : j < k
      · rw [p3 j g, q3 j g, hw _ _ (by omega)]
        exact h3 j g
      · obtain ⟨i, rfl⟩ : ∃ i, j = k + i := ⟨j - k, by omega⟩
        rw [p2 i (by omega), q2 i (by omega)]
        exact ⟨rfl, bt_rng⟩
    · rw [q4 _ _ (by omega) g2, hw _ _ (by omega)]
  · refine ⟨-1, M, wi N (x + 95) 2 0, Wp.eq ?_, Wp.eq ?_, ⟨k, hk, h1, e12, fun j hj => by rw [hw _ _ (by omega)]; exact h3 j hj⟩, fun _ _ _ _ => rfl, rfl, fun b j g1 g2 => hw _ _ (by omega), rfl⟩
    · unfold f_X10_feed
      exact Wp.ng (by rw [h1]; exact fun q => hc (hcond.mp q)) (Wp.ret rfl)
    · unfold f_X11_feed
      exact Wp.nam (Wp.ng (by rw [e12]; exact fun q => hc (hcond.mp q)) (Wp.ret rfl))
