/-! LEVEL's bounds; what is NOTED, asked -/
theorem lev_bd {z p i : Int32} {A B C D : Int} {c : CW} {r : Nat → Int32} (hz : 1 ≤ z.toInt ∧ z.toInt ≤ 8) (hB : B ≤ 100000000) (h : Core z p i A B C D c r) : 0 ≤ (levR z r).toInt ∧ (levR z r).toInt ≤ 128 := by
  obtain ⟨k1, k2, k3, k4, k5, k6, k7, k8, k9, k10, k11, k12, k13⟩ := h
  obtain ⟨n1, n2, n3, n4, n5, n6, n7, n8, n9, n10, n11, n12, n13, n14, n15, n16, n17, n18, n19, n20⟩ := k5
  clear n4 n5 n6 n7 n8 n9 n10 n11 n12 n15 n16 n17 n18 n19 n20
  have e0 : (0 : Int32).toInt = 0 := rfl
  unfold levR
  by_cases h8 : r 8 = 0
  · rw [if_pos h8, e0]; omega
  · rw [if_neg h8]
    by_cases hh : r 14 / z ≤ r 18
    · rw [if_pos hh]
      obtain ⟨t1, t2, t3, t4⟩ := k8 h8
      clear t2 t3 t4
      have hd := ti_div (a := r 14) (b := z) n13 (by omega)
      have e1 : (1 : Int32).toInt = 1 := rfl
      have hle := Int.ediv_mul_le (r 14).toInt (show z.toInt ≠ 0 by omega)
      have hlt := Int.lt_ediv_add_one_mul_self (r 14).toInt (show (0 : Int) < z.toInt by omega)
      have h0 : 0 ≤ (r 14).toInt / z.toInt := Int.ediv_nonneg n13 (by omega)
      have hself := Int.ediv_le_self z.toInt n13
      have hp1 : (r 18 + 1).toInt = (r 18).toInt + 1 := by rw [ti_add (by omega) (by omega), e1]
      have hm0 : 0 ≤ ((r 18).toInt + 1) * z.toInt := Int.mul_nonneg (by omega) (by omega)
      have hm8 : ((r 18).toInt + 1) * z.toInt ≤ ((r 18).toInt + 1) * 8 := Int.mul_le_mul_of_nonneg_left hz.2 (by omega)
      have hmul : ((r 18 + 1) * z).toInt = ((r 18).toInt + 1) * z.toInt := by
        rw [ti_mul (by rw [hp1]; omega) (by rw [hp1]; omega), hp1]
      have hsub : ((r 18 + 1) * z - r 14).toInt = ((r 18).toInt + 1) * z.toInt - (r 14).toInt := by
        rw [ti_sub (by rw [hmul]; omega) (by rw [hmul]; omega), hmul]
      have hh2 := Int32.le_iff_toInt_le.mp hh
      rw [hd] at hh2
      have hmm : ((r 14).toInt / z.toInt + 1) * z.toInt ≤ ((r 18).toInt + 1) * z.toInt := Int.mul_le_mul_of_nonneg_right (by omega) (by omega)
      have hmx : ((r 18).toInt + 1) * z.toInt ≤ ((r 14).toInt / z.toInt + 16) * z.toInt := Int.mul_le_mul_of_nonneg_right (by omega) (by omega)
      have hex : ((r 14).toInt / z.toInt + 16) * z.toInt = (r 14).toInt / z.toInt * z.toInt + 16 * z.toInt := Int.add_mul _ _ _
      have hey : ((r 14).toInt / z.toInt + 1) * z.toInt = (r 14).toInt / z.toInt * z.toInt + 1 * z.toInt := Int.add_mul _ _ _
      rw [hsub]
      clear hsub hmul hm8 hm0 hp1 hself h0 hd hh2 n14 n1 n3 n13 hB t1
      omega
    · rw [if_neg hh, e0]; omega
theorem QR.lvb {x : Nat} {L : LN} {p i : Int32} {M N M1 N1 : Mem} {T : Int} (h : QR x L p i M N T M1 N1) (hW : LWf L) (hT : 0 ≤ T ∧ T ≤ 60000) : 0 ≤ (levR (L.1 0) (N1.1 (x + 95 + 8))).toInt ∧ (levR (L.1 0) (N1.1 (x + 95 + 8))).toInt ≤ 128 := lev_bd hW.1 (by omega) h.core
theorem put_out {M : Mem} {r n k : Nat} {v : Int32} (hk : n ≤ k) (hn : k < 2 ^ 31) : f_X10_put r n (Int32.ofNat k) v M = some ((), M) := by
  refine Wp.eq ?_
  unfold f_X10_put
  refine Wp.j1 (Wp.ng (fun g => ?_) (Wp.ps ?_ (Wp.ret rfl)))
  · exact absurd ((i_lt (a := k) (b := 0) (by omega) (by omega)).mp g) (by omega)
  · exact (i_le (a := n) (b := k) (by omega) (by omega)).mpr hk
theorem ti_nat {k : Nat} (hk : k < 2 ^ 31) : (Int32.ofNat k).toInt = (k : Int) := by
  have h1 := i_nn hk
  have h2 := i_rng (k := k) (n := k + 1) (by omega)
  rw [← Int32.toNat_toInt] at h1
  by_cases e : k + 1 < 2 ^ 31
  · have := h2 e
    omega
  · have h3 : k = 2147483647 := by omega
    subst h3
    decide
theorem i_d10 {k : Nat} (hk : k < 1000) : Int32.ofNat k / 10 = Int32.ofNat (k / 10) := Int32.toInt_inj.mp (by
  have e10 : (10 : Int32).toInt = 10 := rfl
  rw [ti_div (by rw [ti_nat (by omega)]; omega) (by rw [e10]; omega), ti_nat (by omega), ti_nat (by omega), e10]
  omega)
theorem i_r10 {k : Nat} (hk : k < 1000) : Int32.ofNat k - Int32.ofNat k / 10 * 10 = 0 ↔ k % 10 = 0 := by
  have e10 : (10 : Int32).toInt = 10 := rfl
  have e : (Int32.ofNat k - Int32.ofNat k / 10 * 10).toInt = (k : Int) % 10 := by
    rw [ti_rem (by rw [ti_nat (by omega)]; omega) (by rw [e10]; omega), ti_nat (by omega), e10]
  constructor
  · intro h
    rw [h] at e
    have : (0 : Int32).toInt = 0 := rfl
    omega
  · intro h
    refine Int32.toInt_inj.mp ?_
    rw [e]
    have : (0 : Int32).toInt = 0 := rfl
    omega
/-- the notes agree with LEVEL behind k STEPS -/
def NtA (nin nlev : Nat → Int32) (j nn : Nat) (k lev : Int32) : Prop := ∀ i, j ≤ i → i < nn → nin i = k → nlev i = lev
theorem cnot_loop {s nn : Nat} {k lev : Int32} {M : Mem} (h5 : M.1 s 5 = Int32.ofNat nn) (hn : nn ≤ 8) : ∀ (m j fu : Nat), j + m = nn → m < fu → ∃ v, lop2 fu (l_X8_isNoted_2 s k lev) (Int32.ofNat j) M = some (v, M) ∧ ((v = 1 ∧ NtA (M.1 (s + 27)) (M.1 (s + 28)) j nn k lev) ∨ (v = 0 ∧ ¬ NtA (M.1 (s + 27)) (M.1 (s + 28)) j nn k lev)) := by
  intro m
  induction m with
  | zero =>
    intro j fu hj hf
    obtain ⟨fu, rfl⟩ : ∃ q, fu = q + 1 := ⟨fu - 1, by omega⟩
    refine ⟨1, lop2_inr (Wp.eq ?_), Or.inl ⟨rfl, fun i a b => by omega⟩⟩
    unfold l_X8_isNoted_2
    rw [h5]
    exact Wp.ps ((i_le (by omega) (by omega)).mpr (by omega)) (Wp.ret rfl)
  | succ m ih =>
    intro j fu hj hf
    obtain ⟨fu, rfl⟩ : ∃ q, fu = q + 1 := ⟨fu - 1, by omega⟩
    have hlt : ¬ Int32.ofNat nn ≤ Int32.ofNat j := fun g => by
      have := (i_le (by omega) (by omega)).mp g
      omega
    have go : (M.1 (s + 27) j = k → M.1 (s + 28) j = lev) → l_X8_isNoted_2 s k lev (Int32.ofNat j) M = some (.inl (Int32.ofNat (j + 1), M)) → ∃ v, lop2 (fu + 1) (l_X8_isNoted_2 s k lev) (Int32.ofNat j) M = some (v, M) ∧ ((v = 1 ∧ NtA (M.1 (s + 27)) (M.1 (s + 28)) j nn k lev) ∨ (v = 0 ∧ ¬ NtA (M.1 (s + 27)) (M.1 (s + 28)) j nn k lev)) := fun h e => by
      obtain ⟨v, e2, hv⟩ := ih (j + 1) fu (by omega) (by omega)
      refine ⟨v, (lop2_inl e).trans e2, ?_⟩
      have hiff : NtA (M.1 (s + 27)) (M.1 (s + 28)) j nn k lev ↔ NtA (M.1 (s + 27)) (M.1 (s + 28)) (j + 1) nn k lev := by
        constructor
        · exact fun q i a b => q i (by omega) b
        · intro q i a b
          by_cases e : i = j
          · subst e; exact h
          · exact q i (by omega) b
      rw [hiff]
      exact hv
    by_cases g1 : M.1 (s + 27) j = k
    · by_cases g2 : M.1 (s + 28) j = lev
      · refine go (fun _ => g2) (Wp.eq ?_)
        unfold l_X8_isNoted_2
        rw [h5]
        refine Wp.ng hlt (Wp.cl (at_nat (by omega) (by decide)) (Wp.j1 (Wp.ps g1 (Wp.cl (at_nat (by omega) (by decide)) (Wp.ps g2 (Wp.nam ?_))))))
        rw [i_ad1]
        exact Wp.ret rfl
      · refine ⟨0, lop2_inr (Wp.eq ?_), Or.inr ⟨rfl, fun q => g2 (q j (Nat.le_refl _) (by omega) g1)⟩⟩
        unfold l_X8_isNoted_2
        rw [h5]
        exact Wp.ng hlt (Wp.cl (at_nat (by omega) (by decide)) (Wp.j1 (Wp.ps g1 (Wp.cl (at_nat (by omega) (by decide)) (Wp.ng g2 (Wp.ret rfl))))))
    · refine go (fun e => absurd e g1) (Wp.eq ?_)
      unfold l_X8_isNoted_2
      rw [h5]
      refine Wp.ng hlt (Wp.cl (at_nat (by omega) (by decide)) (Wp.j1 (Wp.ng g1 (Wp.nam ?_))))
      rw [i_ad1]
      exact Wp.ret rfl
theorem e_isNoted {s nn : Nat} {k lev : Int32} {M : Mem} (h5 : M.1 s 5 = Int32.ofNat nn) (hn : nn ≤ 8) : ∃ v, f_X8_isNoted s k lev M = some (v, M) ∧ ((v = 1 ∧ NtA (M.1 (s + 27)) (M.1 (s + 28)) 0 nn k lev) ∨ (v = 0 ∧ ¬ NtA (M.1 (s + 27)) (M.1 (s + 28)) 0 nn k lev)) := cnot_loop h5 hn nn 0 FU (by omega) (by unfold FU; omega)
/-- LEVEL behind k STEPS is kept for the looks -/
def lkQ (t a k : Nat) (u : Int32) (M : Mem) : Mem := if k % 10 = 0 ∧ 0 < k ∧ k ≤ 50 then wi M (t + 21) (5 * a + k / 10 - 1) u else M
def lkC (w k : Nat) (u : Int32) (M : Mem) : Mem := if k % 10 = 0 ∧ 0 < k ∧ k ≤ 50 then wi M w (k / 10 - 1) u else M
theorem mnot_loop {t a k nn : Nat} {lev : Int32} {M M2 : Mem} (h32 : M.1 t 32 = Int32.ofNat nn) (hn : nn ≤ 8) (ha : a ≤ 198) (hk : k ≤ 60) (hs : f_X11_aStep t (lkQ t a k lev M) = some ((), M2)) : ∀ (m j fu : Nat) (v : Int32), j + m = nn → m < fu → (v = 0 ∨ v = 1) → ∃ v', (v' = 0 ∨ v' = 1) ∧ (v' = 1 ↔ v = 1 ∧ NtA (M.1 (t + 18)) (M.1 (t + 19)) j nn (Int32.ofNat k) lev) ∧ lop2 fu (l_X11_isAsNoted_19 t (Int32.ofNat a) (Int32.ofNat k) M lev) v (Int32.ofNat j) = some (.inl (v', Int32.ofNat (k + 1), M2)) := by
  intro m
  induction m with
  | zero =>
    intro j fu v hj hf hv
    obtain ⟨fu, rfl⟩ : ∃ q, fu = q + 1 := ⟨fu - 1, by omega⟩
    refine ⟨v, hv, ⟨fun e => ⟨e, fun i a b => by omega⟩, fun e => e.1⟩, lop2_inr (Wp.eq ?_)⟩
    unfold l_X11_isAsNoted_19
    rw [h32]
    refine Wp.ps ((i_le (by omega) (by omega)).mpr (by omega)) (Wp.j1 ?_)
    have fin : ∀ M10, M10 = lkQ t a k lev M → Wp (bd (f_X11_aStep t M10) (fun _ M12 => nm (Int32.ofNat k + (1 : Int32)) (fun y13 => some (.inr (.inl (v, y13, M12)))))) (fun q => q = (.inr (.inl (v, Int32.ofNat (k + 1), M2)) : (Int32 × Int32) ⊕ ((Int32 × Int32 × Mem) ⊕ (Int32 × Mem)))) := fun M10 e => by
      subst e
      refine Wp.cl hs (Wp.nam ?_)
      rw [i_ad1]
      exact Wp.ret rfl
    refine Wp.br (fun g => ?_) (fun g => ?_)
    · have : k ≤ 0 := (i_le (a := k) (b := 0) (by omega) (by omega)).mp g
      exact fin _ (by unfold lkQ; rw [if_neg (by omega)])
    · have hk0 : 0 < k := Nat.lt_of_not_le fun e => g ((i_le (a := k) (b := 0) (by omega) (by omega)).mpr e)
      refine Wp.br (fun g2 => ?_) (fun g2 => ?_)
      · have h10 := (i_r10 (by omega)).mp g2
        rw [i_d10 (by omega)]
        refine Wp.br (fun g3 => ?_) (fun g3 => ?_)
        · have : 5 < k / 10 := (i_lt (a := 5) (b := k / 10) (by omega) (by omega)).mp g3
          exact fin _ (by unfold lkQ; rw [if_neg (by omega)])
        · have h5 : k / 10 ≤ 5 := Nat.le_of_not_lt fun e => g3 ((i_lt (a := 5) (b := k / 10) (by omega) (by omega)).mpr e)
          have e1 : (5 : Int32) * Int32.ofNat a + Int32.ofNat (k / 10) = Int32.ofNat (5 * a + k / 10) := i_lin (c := 5)
          have e2 : Int32.ofNat (5 * a + k / 10) - 1 = Int32.ofNat (5 * a + k / 10 - 1) := i_sbn (b := 1) (by omega)
          rw [e1, e2]
          refine Wp.gi (i_rng (by omega) (by decide)) (Wp.nam ?_)
          rw [i_nn (by omega)]
          exact fin _ (by unfold lkQ; rw [if_pos (by omega)])
      · have h10 : ¬ k % 10 = 0 := fun e => g2 ((i_r10 (by omega)).mpr e)
        exact fin _ (by unfold lkQ; rw [if_neg (by omega)])
  | succ m ih =>
    intro j fu v hj hf hv
    obtain ⟨fu, rfl⟩ : ∃ q, fu = q + 1 := ⟨fu - 1, by omega⟩
    have hlt : ¬ Int32.ofNat nn ≤ Int32.ofNat j := fun g => by
      have := (i_le (by omega) (by omega)).mp g
      omega
    obtain ⟨w, hw, hw01, hb⟩ : ∃ w : Int32, (w = 1 ↔ v = 1 ∧ (M.1 (t + 18) j = Int32.ofNat k → M.1 (t + 19) j = lev)) ∧ (w = 0 ∨ w = 1) ∧ l_X11_isAsNoted_19 t (Int32.ofNat a) (Int32.ofNat k) M lev v (Int32.ofNat j) = some (.inl (w, Int32.ofNat (j + 1))) := by
      have st : ∀ z : Int32, Wp (nm (Int32.ofNat j + (1 : Int32)) (fun y16 => some (.inl (z, y16)))) (fun q => q = (.inl (z, Int32.ofNat (j + 1)) : (Int32 × Int32) ⊕ ((Int32 × Int32 × Mem) ⊕ (Int32 × Mem)))) := fun z => by
        refine Wp.nam ?_
        rw [i_ad1]
        exact Wp.ret rfl
      by_cases g0 : v = 0
      · refine ⟨0, ⟨fun e => absurd e (by decide), fun e => by rw [g0] at e; exact absurd e.1 (by decide)⟩, Or.inl rfl, Wp.eq ?_⟩
        unfold l_X11_isAsNoted_19
        rw [h32]
        exact Wp.ng hlt (Wp.j1 (Wp.j0 (Wp.ps g0 (st 0))))
      · have hv1 := hv.resolve_left g0
        by_cases g1 : M.1 (t + 18) j = Int32.ofNat k
        · by_cases g2 : M.1 (t + 19) j = lev
          · refine ⟨1, ⟨fun _ => ⟨hv1, fun _ => g2⟩, fun _ => rfl⟩, Or.inr rfl, Wp.eq ?_⟩
            unfold l_X11_isAsNoted_19
            rw [h32]
            refine Wp.ng hlt (Wp.j1 (Wp.j0 (Wp.ng g0 (Wp.gi (i_rng (by omega) (by decide)) (Wp.j0 ?_)))))
            rw [i_nn (by omega)]
            exact Wp.ps g1 (Wp.gi (i_rng (by omega) (by decide)) (Wp.ps g2 (st 1)))
          · refine ⟨0, ⟨fun e => absurd e (by decide), fun e => absurd (e.2 g1) g2⟩, Or.inl rfl, Wp.eq ?_⟩
            unfold l_X11_isAsNoted_19
            rw [h32]
            refine Wp.ng hlt (Wp.j1 (Wp.j0 (Wp.ng g0 (Wp.gi (i_rng (by omega) (by decide)) (Wp.j0 ?_)))))
            rw [i_nn (by omega)]
            exact Wp.ps g1 (Wp.gi (i_rng (by omega) (by decide)) (Wp.ng g2 (st 0)))
        · refine ⟨1, ⟨fun _ => ⟨hv1, fun e => absurd e g1⟩, fun _ => rfl⟩, Or.inr rfl, Wp.eq ?_⟩
          unfold l_X11_isAsNoted_19
          rw [h32]
          refine Wp.ng hlt (Wp.j1 (Wp.j0 (Wp.ng g0 (Wp.gi (i_rng (by omega) (by decide)) (Wp.j0 ?_)))))
          rw [i_nn (by omega)]
          exact Wp.ng g1 (st 1)
    obtain ⟨v', h01, hv', e⟩ := ih (j + 1) fu w (by omega) (by omega) hw01
    refine ⟨v', h01, hv'.trans ?_, (lop2_inl hb).trans e⟩
    rw [hw]
    constructor
    · rintro ⟨⟨q1, q2⟩, q3⟩
      refine ⟨q1, fun i a b => ?_⟩
      by_cases e : i = j
      · subst e; exact q2
      · exact q3 i (by omega) b
    · rintro ⟨q1, q3⟩
      exact ⟨⟨q1, fun e => q3 j (Nat.le_refl _) (by omega) e⟩, fun i a b => q3 i (by omega) b⟩
