/-! storms: the sums -/
def wtN (tn k : Nat) : Nat → Nat
  | 0 => 1
  | j + 1 => wtN tn k j * (if k / 2 ^ j % 2 = 0 then 10 - tn else tn)
theorem wtN_s {tn k j : Nat} : wtN tn k (j + 1) = wtN tn k j * (if k / 2 ^ j % 2 = 0 then 10 - tn else tn) := rfl
theorem wtN_le {tn k : Nat} (ht : tn ≤ 10) : ∀ j, wtN tn k j ≤ 10 ^ j
  | 0 => Nat.le_refl _
  | j + 1 => by
    rw [wtN_s, Nat.pow_succ]
    refine Nat.mul_le_mul (wtN_le ht j) ?_
    split <;> omega
theorem wt_low {tn : Nat} : ∀ (j m : Nat), wtN tn m (j + 1) = (if m % 2 = 0 then 10 - tn else tn) * wtN tn (m / 2) j
  | 0, m => by
    rw [wtN_s]
    unfold wtN
    have : m / 2 ^ 0 = m := by rw [Nat.pow_zero, Nat.div_one]
    rw [this, Nat.one_mul, Nat.mul_one]
  | j + 1, m => by
    rw [wtN_s, wt_low j m, wtN_s (k := m / 2), Nat.mul_assoc]
    have : m / 2 ^ (j + 1) = m / 2 / 2 ^ j := by
      rw [Nat.div_div_eq_div_mul, Nat.pow_succ, Nat.mul_comm]
    rw [this]
theorem revn_s {p k : Nat} : revn (p + 1) k = (k / 2 ^ p) % 2 + 2 * revn p k := rfl
theorem wt_rev {tn k : Nat} : ∀ p, wtN tn (revn p k) p = wtN tn k p
  | 0 => rfl
  | p + 1 => by
    have h1 : ((k / 2 ^ p) % 2 + 2 * revn p k) % 2 = (k / 2 ^ p) % 2 := by omega
    have h2 : ((k / 2 ^ p) % 2 + 2 * revn p k) / 2 = revn p k := by omega
    rw [revn_s, wt_low, h1, h2, wt_rev p, wtN_s, Nat.mul_comm]
def sumN (g : Nat → Nat) : Nat → Nat
  | 0 => 0
  | n + 1 => sumN g n + g n
theorem sumN_s {g : Nat → Nat} {n : Nat} : sumN g (n + 1) = sumN g n + g n := rfl
theorem sumN_l {g : Nat → Nat} : ∀ n, sumN g n = ((List.range n).map g).sum
  | 0 => rfl
  | n + 1 => by
    rw [sumN_s, sumN_l n, List.range_succ, List.map_append, List.sum_append]
    simp
theorem sumN_cg {g h : Nat → Nat} : ∀ n, (∀ k, k < n → g k = h k) → sumN g n = sumN h n
  | 0, _ => rfl
  | n + 1, e => by rw [sumN_s, sumN_s, sumN_cg n (fun k hk => e k (by omega)), e n (by omega)]
theorem rev_perm : ∀ n, n < 5 → ((List.range (2 ^ (n + 1))).map (revn (n + 1))).Perm (List.range (2 ^ (n + 1))) := by decide +kernel
theorem sum_rev {g : Nat → Nat} {n : Nat} (hn : n < 5) : sumN (fun f => g (revn (n + 1) f)) (2 ^ (n + 1)) = sumN g (2 ^ (n + 1)) := by
  rw [sumN_l, sumN_l]
  have h := ((rev_perm n hn).map g).sum_nat
  rw [List.map_map] at h
  exact h
theorem rev_inv : ∀ n, n < 5 → ∀ f, f < 32 → f < 2 ^ (n + 1) → revn (n + 1) (revn (n + 1) f) = f ∧ revn (n + 1) f < 32 := by decide +kernel
theorem one_shl : ∀ n, n < 5 → (1 : Int32) <<< (Int32.ofNat (n + 1) &&& 31) = Int32.ofNat (2 ^ (n + 1)) := by decide +kernel
theorem bit_of : ∀ j, j < 5 → ∀ f, f < 32 → ((((Int32.ofNat f >>> (Int32.ofNat j &&& 31)) &&& 1) = 0 ↔ f / 2 ^ j % 2 = 0) ∧ (((Int32.ofNat f >>> (Int32.ofNat j &&& 31)) &&& 1) = 1 ↔ ¬ f / 2 ^ j % 2 = 0)) := by decide +kernel
theorem pow32 : ∀ n, n < 5 → 2 ^ (n + 1) ≤ 32 ∧ 10 ^ (n + 1) ≤ 100000 := by decide
theorem i_ml {a b : Nat} : Int32.ofNat a * Int32.ofNat b = Int32.ofNat (a * b) := (Int32.ofNat_mul a b).symm
theorem wt_loop {tn f n : Nat} {M : Mem} (hf : f < 32) (hn : n < 5) (ht : tn ≤ 10) : ∀ (m j fu : Nat), j + m = n + 1 → m < fu → lop2 fu (l_X2_weightOf_5 (Int32.ofNat f) (Int32.ofNat (n + 1)) (Int32.ofNat tn) M) (Int32.ofNat (wtN tn f j)) (Int32.ofNat j) = some (Int32.ofNat (wtN tn f (n + 1)), M) := by
  intro m
  induction m with
  | zero =>
    intro j fu hj hfu
    obtain ⟨fu, rfl⟩ : ∃ q, fu = q + 1 := ⟨fu - 1, by omega⟩
    obtain rfl : j = n + 1 := by omega
    refine lop2_inr (Wp.eq ?_)
    unfold l_X2_weightOf_5
    exact Wp.ps ((i_le (by omega) (by omega)).mpr (Nat.le_refl _)) (Wp.ret rfl)
  | succ m ih =>
    intro j fu hj hfu
    obtain ⟨fu, rfl⟩ : ∃ q, fu = q + 1 := ⟨fu - 1, by omega⟩
    have b1 : l_X2_weightOf_5 (Int32.ofNat f) (Int32.ofNat (n + 1)) (Int32.ofNat tn) M (Int32.ofNat (wtN tn f j)) (Int32.ofNat j) = some (.inl (Int32.ofNat (wtN tn f (j + 1)), Int32.ofNat (j + 1))) := by
      refine Wp.eq ?_
      unfold l_X2_weightOf_5
      have hb := (bit_of j (by omega) f hf).1
      have e10 : (10 : Int32) - Int32.ofNat tn = Int32.ofNat (10 - tn) := i_sbn (a := 10) ht
      rw [wtN_s]
      refine Wp.ng (fun g => by have := (i_le (by omega) (by omega)).mp g; omega) (Wp.j1 (Wp.br (fun g => ?_) (fun g => ?_)))
      · rw [e10, if_pos (hb.mp g)]
        refine Wp.nam (Wp.nam ?_)
        rw [i_ml, i_ad1]
        exact Wp.ret rfl
      · rw [if_neg (fun q => g (hb.mpr q))]
        refine Wp.nam (Wp.nam ?_)
        rw [i_ml, i_ad1]
        exact Wp.ret rfl
    exact (lop2_inl b1).trans (ih (j + 1) fu (by omega) (by omega))
theorem e_weight {tn f n : Nat} {M : Mem} (hf : f < 32) (hn : n < 5) (ht : tn ≤ 10) : f_X2_weightOf (Int32.ofNat f) (Int32.ofNat (n + 1)) (Int32.ofNat tn) M = some (Int32.ofNat (wtN tn f (n + 1)), M) := wt_loop hf hn ht (n + 1) 0 FU (by omega) (by unfold FU; omega)
/-- whether nothing is filled in the storm of that number -/
def PmS (x n : Nat) (N : Mem) (k : Nat) : Prop := ∃ N2, f_X11_goOn (x + 95) 80 (wi (wi (rcp N (x + 95 + 8) (x + 95 + 16) 665) (x + 95) 29 (Int32.ofNat (n + 1))) (x + 95) 30 (Int32.ofNat k)) = some ((), N2) ∧ N2.1 (x + 95 + 8) 7 = N.1 (x + 95 + 8) 7
theorem stormC {x n k : Nat} {L : LN} {M N M1 : Mem} (hI : Inv2 x L M N) (hn : n < 5) (hk : k < 32) (hf : FQ x M M1) : ∃ v M2, f_X2_isUnharmed (x + 79) (x + 19 + 1) (M.2.2 0) (Int32.ofNat (n + 1)) (Int32.ofNat (revn (n + 1) k)) M1 = some (v, M2) ∧ FQ x M M2 ∧ ((v = 1 ∧ PmS x n N k) ∨ (v = 0 ∧ ¬ PmS x n N k)) := by
  obtain ⟨_, hG⟩ := GL.begin (N0 := N) hI (fun _ _ _ => rfl) rfl
  obtain ⟨v, M2, N2, e1, e2, _, e4, _, hv⟩ := storm1 hI hn hk (M1 := M1) ⟨hf, hG.2⟩
  refine ⟨v, M2, e1, e4.1, ?_⟩
  rcases hv with ⟨h1, h2⟩ | ⟨h1, h2⟩
  · exact Or.inl ⟨h1, N2, e2, h2⟩
  · refine Or.inr ⟨h1, fun ⟨N3, g1, g2⟩ => h2 ?_⟩
    have g3 := (Prod.mk.inj (Option.some.inj (e2.symm.trans g1))).2
    rw [g3]
    exact g2
theorem stormM {x n k : Nat} {L : LN} {M N N1 : Mem} (hI : Inv2 x L M N) (hn : n < 5) (hk : k < 32) (hG : GL x L M N M N1) : ∃ N2, f_X11_goOn (x + 95) 80 (wi (wi N1 (x + 95) 29 (Int32.ofNat (n + 1))) (x + 95) 30 (Int32.ofNat k)) = some ((), N2) ∧ f_X11_back (x + 95) 0 (wi N2 (x + 95) 29 0) = some (0, rcp (wi N2 (x + 95) 29 0) (x + 95 + 16) (x + 95 + 8) 665) ∧ GL x L M N M (rcp (wi N2 (x + 95) 29 0) (x + 95 + 16) (x + 95 + 8) 665) ∧ N2.1 (x + 95 + 16) 7 = N.1 (x + 95 + 8) 7 ∧ (N2.1 (x + 95 + 8) 7 = N.1 (x + 95 + 8) 7 ↔ PmS x n N k) := by
  obtain ⟨v, M2, N2, e1, e2, e3, e4, e5, hv⟩ := storm1 hI hn hk hG
  obtain ⟨v', M3, c1, c2, hv'⟩ := stormC hI hn hk (FQ.rf (x := x) (M := M))
  refine ⟨N2, e2, e3, ⟨FQ.rf, e4.2⟩, e5, ?_⟩
  have c3 := (Prod.mk.inj (Option.some.inj (e1.symm.trans c1))).1
  subst c3
  rcases hv with ⟨h1, h2⟩ | ⟨h1, h2⟩ <;> rcases hv' with ⟨h3, h4⟩ | ⟨h3, h4⟩
  · exact ⟨fun _ => h4, fun _ => h2⟩
  · rw [h1] at h3; exact absurd h3 (by decide)
  · rw [h1] at h3; exact absurd h3 (by decide)
  · exact ⟨fun q => absurd q h2, fun q => absurd q h4⟩
theorem stC_loop {x n tn : Nat} {L : LN} {M N : Mem} {P : Nat → Bool} (hI : Inv2 x L M N) (hn : n < 5) (ht : tn ≤ 10) (hP : ∀ k, P k = true ↔ PmS x n N k) : ∀ (m f fc : Nat) (M1 : Mem), f + m = 2 ^ (n + 1) → m < fc → FQ x M M1 → ∃ M2, lop3 fc (l_X2_unharmed_6 (x + 79) (x + 19 + 1) (M.2.2 0) (Int32.ofNat (n + 1)) (Int32.ofNat tn)) (Int32.ofNat (sumN (fun f => if P (revn (n + 1) f) then wtN tn f (n + 1) else 0) f)) (Int32.ofNat f) M1 = some (Int32.ofNat (sumN (fun f => if P (revn (n + 1) f) then wtN tn f (n + 1) else 0) (2 ^ (n + 1))), M2) ∧ FQ x M M2 := by
  obtain ⟨hp1, hp2⟩ := pow32 n hn
  intro m
  induction m with
  | zero =>
    intro f fc M1 hf hc hq
    obtain ⟨fc, rfl⟩ : ∃ q, fc = q + 1 := ⟨fc - 1, by omega⟩
    obtain rfl : f = 2 ^ (n + 1) := by omega
    refine ⟨M1, lop3_inr (Wp.eq ?_), hq⟩
    unfold l_X2_unharmed_6
    rw [one_shl n hn]
    exact Wp.ps ((i_le (by omega) (by omega)).mpr (Nat.le_refl _)) (Wp.ret rfl)
  | succ m ih =>
    intro f fc M1 hf hc hq
    obtain ⟨fc, rfl⟩ : ∃ q, fc = q + 1 := ⟨fc - 1, by omega⟩
    obtain ⟨hi, hr32⟩ := rev_inv n hn f (by omega) (by omega)
    obtain ⟨v, M2, e1, e2, hv⟩ := stormC (k := revn (n + 1) f) hI hn hr32 hq
    rw [hi] at e1
    have hw := wtN_le (tn := tn) (k := f) ht (n + 1)
    obtain ⟨M3, hq3, b1⟩ : ∃ M3, FQ x M M3 ∧ l_X2_unharmed_6 (x + 79) (x + 19 + 1) (M.2.2 0) (Int32.ofNat (n + 1)) (Int32.ofNat tn) (Int32.ofNat (sumN (fun f => if P (revn (n + 1) f) then wtN tn f (n + 1) else 0) f)) (Int32.ofNat f) M1 = some (.inl (Int32.ofNat (sumN (fun f => if P (revn (n + 1) f) then wtN tn f (n + 1) else 0) (f + 1)), Int32.ofNat (f + 1), M3)) := by
      rw [sumN_s]
      generalize sumN (fun f => if P (revn (n + 1) f) then wtN tn f (n + 1) else 0) f = S
      have i2 : ¬ Int32.ofNat (2 ^ (n + 1)) ≤ Int32.ofNat f := fun g => by
        have := (i_le (by omega) (by omega)).mp g
        omega
      by_cases hz : wtN tn f (n + 1) = 0
      · refine ⟨M1, hq, Wp.eq ?_⟩
        unfold l_X2_unharmed_6
        rw [one_shl n hn]
        refine Wp.ng i2 (Wp.cl (e_weight (by omega) hn ht) (Wp.j2 ?_))
        rw [hz]
        refine Wp.ps (by decide) (Wp.nam ?_)
        rw [i_ad1]
        refine Wp.ret ?_
        have : (if P (revn (n + 1) f) = true then (0 : Nat) else 0) = 0 := by split <;> rfl
        rw [this]
        rfl
      · have hz2 : ¬ Int32.ofNat (wtN tn f (n + 1)) ≤ 0 := fun g => by
          have := (i_le (a := wtN tn f (n + 1)) (b := 0) (by omega) (by omega)).mp g
          omega
        refine ⟨M2, e2, Wp.eq ?_⟩
        unfold l_X2_unharmed_6
        rw [one_shl n hn]
        refine Wp.ng i2 (Wp.cl (e_weight (by omega) hn ht) (Wp.j2 (Wp.ng hz2 (Wp.cl e1 ?_))))
        rcases hv with ⟨h1, h2⟩ | ⟨h1, h2⟩ <;> subst h1
        · refine Wp.ng (by decide) (Wp.nam (Wp.nam ?_))
          rw [i_ad1, i_ad, if_pos ((hP _).mpr h2)]
          exact Wp.ret rfl
        · refine Wp.ps rfl (Wp.nam ?_)
          rw [i_ad1, if_neg (fun q => h2 ((hP _).mp q))]
          exact Wp.ret rfl
    obtain ⟨M4, r1, r2⟩ := ih (f + 1) fc M3 (by omega) (by omega) hq3
    exact ⟨M4, (lop3_inl b1).trans r1, r2⟩
theorem stW_loop {x n tn k : Nat} {N1 : Mem} {S : Int32} {R : Option ((Int32 × Int32 × Mem) ⊕ (Int32 × Mem))} (hk : k < 32) (hn : n < 5) (ht : tn ≤ 10) (hR : l_X11_storms_57 (x + 95) (Int32.ofNat (n + 1)) (Int32.ofNat tn) S (Int32.ofNat k) (Int32.ofNat (wtN tn k (n + 1))) (Int32.ofNat (n + 1)) N1 = R.map .inr) : ∀ (m j fu : Nat), j + m = n + 1 → m < fu → lop3 fu (l_X11_storms_57 (x + 95) (Int32.ofNat (n + 1)) (Int32.ofNat tn) S (Int32.ofNat k)) (Int32.ofNat (wtN tn k j)) (Int32.ofNat j) N1 = R := by
  intro m
  induction m with
  | zero =>
    intro j fu hj hfu
    obtain ⟨fu, rfl⟩ : ∃ q, fu = q + 1 := ⟨fu - 1, by omega⟩
    obtain rfl : j = n + 1 := by omega
    cases R with
    | none => simp only [lop3, hR, Option.map]
    | some r => exact lop3_inr hR
  | succ m ih =>
    intro j fu hj hfu
    obtain ⟨fu, rfl⟩ : ∃ q, fu = q + 1 := ⟨fu - 1, by omega⟩
    have b1 : l_X11_storms_57 (x + 95) (Int32.ofNat (n + 1)) (Int32.ofNat tn) S (Int32.ofNat k) (Int32.ofNat (wtN tn k j)) (Int32.ofNat j) N1 = some (.inl (Int32.ofNat (wtN tn k (j + 1)), Int32.ofNat (j + 1), N1)) := by
      refine Wp.eq ?_
      unfold l_X11_storms_57
      have hb := (bit_of j (by omega) k hk).2
      have e10 : (10 : Int32) - Int32.ofNat tn = Int32.ofNat (10 - tn) := i_sbn (a := 10) ht
      rw [wtN_s]
      have ho : f_X11_isOf (Int32.ofNat k) (Int32.ofNat j) N1 = some (if k / 2 ^ j % 2 = 0 then 0 else 1, N1) := by
        refine Wp.eq ?_
        unfold f_X11_isOf
        refine Wp.j1 (Wp.br (fun g => ?_) (fun g => ?_))
        · exact Wp.gp (Or.inr rfl) (Wp.ret (by rw [if_neg (hb.mp g)]))
        · exact Wp.gp (Or.inl rfl) (Wp.ret (by rw [if_pos (Classical.byContradiction fun q => g (hb.mpr q))]))
      refine Wp.ng (fun g => by have := (i_le (by omega) (by omega)).mp g; omega) (Wp.cl ho (Wp.j1 ?_))
      by_cases g : k / 2 ^ j % 2 = 0
      · rw [if_pos g, if_pos g, e10]
        refine Wp.ps rfl (Wp.nam (Wp.nam ?_))
        rw [i_ml, i_ad1]
        exact Wp.ret rfl
      · rw [if_neg g, if_neg g]
        refine Wp.ng (by decide) (Wp.nam (Wp.nam ?_))
        rw [i_ml, i_ad1]
        exact Wp.ret rfl
    exact (lop3_inl b1).trans (ih (j + 1) fu (by omega) (by omega))
theorem stM_loop {x n tn : Nat} {L : LN} {M N : Mem} {P : Nat → Bool} (hI : Inv2 x L M N) (hn : n < 5) (ht : tn ≤ 10) (hP : ∀ k, P k = true ↔ PmS x n N k) : ∀ (m k fm : Nat) (N1 : Mem), k + m = 2 ^ (n + 1) → m < fm → GL x L M N M N1 → ∃ N2, lop3 fm (l_X11_storms_43 (x + 95) (Int32.ofNat (n + 1)) (Int32.ofNat tn)) (Int32.ofNat (sumN (fun f => if P f then wtN tn f (n + 1) else 0) k)) (Int32.ofNat k) N1 = some (Int32.ofNat (sumN (fun f => if P f then wtN tn f (n + 1) else 0) (2 ^ (n + 1))), N2) ∧ GL x L M N M N2 := by
  obtain ⟨hp1, hp2⟩ := pow32 n hn
  intro m
  induction m with
  | zero =>
    intro f fc M1 hf hc hq
    obtain ⟨fc, rfl⟩ : ∃ q, fc = q + 1 := ⟨fc - 1, by omega⟩
    obtain rfl : f = 2 ^ (n + 1) := by omega
    refine ⟨M1, lop3_inr (Wp.eq ?_), hq⟩
    unfold l_X11_storms_43
    rw [one_shl n hn]
    exact Wp.ps ((i_le (by omega) (by omega)).mpr (Nat.le_refl _)) (Wp.ret rfl)
  | succ m ih =>
    intro f fc N1 hf hc hq
    obtain ⟨fc, rfl⟩ : ∃ q, fc = q + 1 := ⟨fc - 1, by omega⟩
    obtain ⟨N2, e1, e2, e3, e4, e5⟩ := stormM (k := f) hI hn (by omega) hq
    have b1 : l_X11_storms_43 (x + 95) (Int32.ofNat (n + 1)) (Int32.ofNat tn) (Int32.ofNat (sumN (fun f => if P f then wtN tn f (n + 1) else 0) f)) (Int32.ofNat f) N1 = some (.inl (Int32.ofNat (sumN (fun f => if P f then wtN tn f (n + 1) else 0) (f + 1)), Int32.ofNat (f + 1), rcp (wi N2 (x + 95) 29 0) (x + 95 + 16) (x + 95 + 8) 665)) := by
      rw [sumN_s]
      generalize sumN (fun f => if P f then wtN tn f (n + 1) else 0) f = S
      have i2 : ¬ Int32.ofNat (2 ^ (n + 1)) ≤ Int32.ofNat f := fun g => by
        have := (i_le (by omega) (by omega)).mp g
        omega
      have hlast : l_X11_storms_57 (x + 95) (Int32.ofNat (n + 1)) (Int32.ofNat tn) (Int32.ofNat S) (Int32.ofNat f) (Int32.ofNat (wtN tn f (n + 1))) (Int32.ofNat (n + 1)) N1 = some (.inr (.inl (Int32.ofNat (S + if P f then wtN tn f (n + 1) else 0), Int32.ofNat (f + 1), rcp (wi N2 (x + 95) 29 0) (x + 95 + 16) (x + 95 + 8) 665))) := by
        refine Wp.eq ?_
        unfold l_X11_storms_57
        refine Wp.ps ((i_le (by omega) (by omega)).mpr (Nat.le_refl _)) (Wp.nam (Wp.nam (Wp.cl e1 (Wp.j1 ?_))))
        rw [e4]
        by_cases g : N2.1 (x + 95 + 8) 7 = N.1 (x + 95 + 8) 7
        · refine Wp.ps g (Wp.nam (Wp.nam (Wp.cl e2 (Wp.nam ?_))))
          rw [i_ad1, i_ad, if_pos ((hP _).mpr (e5.mp g))]
          exact Wp.ret rfl
        · refine Wp.ng g (Wp.nam (Wp.nam (Wp.cl e2 (Wp.nam ?_))))
          rw [i_ad1, if_neg (fun q => g (e5.mpr ((hP _).mp q)))]
          have : Int32.ofNat S + 0 = Int32.ofNat (S + 0) := i_ad (k := 0)
          rw [this]
          exact Wp.ret rfl
      unfold l_X11_storms_43
      rw [one_shl n hn, if_neg i2]
      exact stW_loop (R := some (.inl (Int32.ofNat (S + if P f then wtN tn f (n + 1) else 0), Int32.ofNat (f + 1), rcp (wi N2 (x + 95) 29 0) (x + 95 + 16) (x + 95 + 8) 665))) (by omega) hn ht hlast (n + 1) 0 FU (by omega) (by unfold FU; omega)
    obtain ⟨M4, r1, r2⟩ := ih (f + 1) fc _ (by omega) (by omega) e3
    exact ⟨M4, (lop3_inl b1).trans r1, r2⟩
theorem call_storms {x : Nat} {L : LN} {M N0 N : Mem} {v u : Int32} (h : Rdy x L M N0 N) : CallT x κ1 M N (f_X10_storms x v u M) (f_X11_storms (x + 95) v u N0) := by
  obtain ⟨hr, hI, hc0⟩ := h
  have e1 : (1 : Int32).toInt = 1 := rfl
  have e5 : (5 : Int32).toInt = 5 := rfl
  have e0 : (0 : Int32).toInt = 0 := rfl
  have e10 : (10 : Int32).toInt = 10 := rfl
  have l1 : (1 : Int64).toInt = 1 := rfl
  have l5 : (5 : Int64).toInt = 5 := rfl
  have l10 : (10 : Int64).toInt = 10 := rfl
  by_cases hv : 1 ≤ v.toInt ∧ v.toInt ≤ 5
  · by_cases hu : 0 ≤ u.toInt ∧ u.toInt ≤ 10
    · obtain ⟨n, hn, hvn⟩ : ∃ n, n < 5 ∧ v = Int32.ofNat (n + 1) := ⟨v.toInt.toNat - 1, by omega, by
        have : v.toInt.toNat - 1 + 1 = v.toInt.toNat := by omega
        rw [this]
        exact nat_of (by omega)⟩
      obtain ⟨tn, ht, hut⟩ : ∃ tn, tn ≤ 10 ∧ u = Int32.ofNat tn := ⟨u.toInt.toNat, by omega, nat_of hu.1⟩
      obtain ⟨P, hP⟩ : ∃ P : Nat → Bool, ∀ k, P k = true ↔ PmS x n N k := ⟨fun k => @decide (PmS x n N k) (Classical.propDecidable _), fun k => by simp⟩
      obtain ⟨hp1, hp2⟩ := pow32 n hn
      obtain ⟨hrm, hG⟩ := GL.begin (N0 := N) hI (fun _ _ _ => rfl) rfl
      obtain ⟨M2, c1, c2⟩ := stC_loop (tn := tn) hI hn ht hP (2 ^ (n + 1)) 0 FU M (by omega) (by unfold FU; omega) FQ.rf
      obtain ⟨N2, m1, m2⟩ := stM_loop (tn := tn) hI hn ht hP (2 ^ (n + 1)) 0 FU _ (by omega) (by unfold FU; omega) hG
      have hsum : sumN (fun f => if P (revn (n + 1) f) then wtN tn f (n + 1) else 0) (2 ^ (n + 1)) = sumN (fun f => if P f then wtN tn f (n + 1) else 0) (2 ^ (n + 1)) := by
        rw [← sum_rev (g := fun f => if P f then wtN tn f (n + 1) else 0) hn]
        refine sumN_cg _ (fun k _ => ?_)
        simp only [wt_rev]
      rw [hsum] at c1
      have hG2 : GL x L M N M2 N2 := ⟨c2, m2.2⟩
      subst hvn hut
      refine (hG2.fin hI).t (v := Int32.ofNat (sumN (fun f => if P f then wtN tn f (n + 1) else 0) (2 ^ (n + 1)))) hc0 (Wp.eq ?_) (Wp.eq ?_)
      · unfold f_X10_storms
        refine Wp.j0 (Wp.ng (nlt_of (by rw [e1]; omega)) (Wp.ng (nlt_of (by rw [e5]; omega)) (Wp.ng (nlt_of (by rw [e0]; omega)) (Wp.ps (le_of (by rw [e10]; omega)) (Wp.gp hI.at ?_)))))
        have hun : f_X2_unharmed (x + 79) (x + 19 + 1) (M.2.2 0) (Int32.ofNat (n + 1)) (Int32.ofNat tn) M = some (Int32.ofNat (sumN (fun f => if P f then wtN tn f (n + 1) else 0) (2 ^ (n + 1))), M2) := c1
        exact Wp.cl hun (Wp.ret rfl)
      · unfold f_X11_storms
        exact Wp.cl hr (Wp.cl (e_in1 (by rw [l1, l5]; omega)) (Wp.j1 (Wp.ng (by decide) (Wp.cl (e_in1 (by rw [q0, l10]; omega)) (Wp.ng (by decide) (Wp.cl hrm ⟨_, m1, rfl⟩))))))
    · refine CallT.err (e := 1) (k := 1) hI (Wp.eq ?_) (Wp.eq ?_) rfl
      · unfold f_X10_storms
        refine Wp.j0 (Wp.ng (nlt_of (by rw [e1]; omega)) (Wp.ng (nlt_of (by rw [e5]; omega)) (Wp.br (fun _ => Wp.ret rfl) (fun g => Wp.ng (nle_of ?_) (Wp.ret rfl)))))
        have := Int32.le_iff_toInt_le.mp (nlt_le.mp g)
        rw [e0] at this
        rw [e10]
        omega
      · unfold f_X11_storms
        exact Wp.cl hr (Wp.cl (e_in1 (by rw [l1, l5]; omega)) (Wp.j1 (Wp.ng (by decide) (Wp.cl (e_in0 (by rw [q0, l10]; omega)) (Wp.ps rfl (Wp.cl e_fail (Wp.ret rfl)))))))
  · refine CallT.err (e := 1) (k := 1) hI (Wp.eq ?_) (Wp.eq ?_) rfl
    · unfold f_X10_storms
      refine Wp.j0 (Wp.br (fun _ => Wp.ret rfl) (fun g => Wp.ps (lt_of ?_) (Wp.ret rfl)))
      have := Int32.le_iff_toInt_le.mp (nlt_le.mp g)
      rw [e1] at this
      rw [e5]
      omega
    · unfold f_X11_storms
      exact Wp.cl hr (Wp.cl (e_in0 (by rw [l1, l5]; omega)) (Wp.j1 (Wp.ps rfl (Wp.cl e_fail (Wp.ret rfl)))))
