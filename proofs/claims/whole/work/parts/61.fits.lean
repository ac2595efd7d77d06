/-! Offsets tried: the class's agrees, the model's isAsNoted -/
theorem QR.wr {x : Nat} {L : LN} {p i : Int32} {M N M1 N1 M2 N2 : Mem} {T : Int} (h : QR x L p i M N T M1 N1) (ha : lineAt x M) (eM : ∀ b k, ¬ (b = x + 79 ∨ (x + 92 ≤ b ∧ b < x + 95)) → M2.1 b k = M1.1 b k) (eM2 : M2.2 = M1.2) (e : ∀ b k, ¬ (b = x + 95 + 17 ∨ b = x + 95 + 20 ∨ b = x + 95 + 21 ∨ (b = x + 95 ∧ (k = 36 ∨ k = 37 ∨ k = 42 ∨ k = 43))) → N2.1 b k = N1.1 b k) (e2 : N2.2 = N1.2) : QR x L p i M N T M2 N2 := by
  obtain ⟨q1, q2, q3, q4, q5, q6, q7, q8⟩ := h
  refine ⟨⟨fun b k hb => by rw [eM _ _ (by omega)]; exact q1.1 b k hb, by rw [eM2]; exact q1.2⟩, ⟨fun b k hb => by rw [e _ _ (by omega)]; exact q2.1 b k hb, by rw [e2]; exact q2.2⟩, fun j hj => by rw [e _ _ (by omega)]; exact q3 j hj, q4.cg (fun b k hb => eM _ _ (by unfold lineAt at ha; omega)), q5.cg (fun b k hb => e _ _ (by omega)) (q5.2.2.2.2.cg (funext fun _ => e _ _ (by omega)) (funext fun _ => e _ _ (by omega)) (funext fun _ => e _ _ (by omega))), by rw [e _ _ (by omega)]; exact q6, by rw [e _ _ (by omega)]; exact q7, ?_⟩
  have hr : N2.1 (x + 95 + 8) = N1.1 (x + 95 + 8) := funext fun _ => e _ _ (by omega)
  rw [hr, e _ _ (by omega), e _ _ (by omega)]
  exact q8.lv (Lv.of fun d k hd => eM _ _ (by omega))
theorem lkM_o {t a k : Nat} {u : Int32} {M : Mem} {b j : Nat} (h : ¬ (b = t + 21 ∧ 5 * a ≤ j ∧ j < 5 * a + 5)) : (lkQ t a k u M).1 b j = M.1 b j := by
  unfold lkQ
  by_cases e : k % 10 = 0 ∧ 0 < k ∧ k ≤ 50
  · rw [if_pos e]
    simp only [wi]
    rw [if_neg (by omega)]
  · rw [if_neg e]
theorem lkC_o {w k : Nat} {u : Int32} {M : Mem} {b j : Nat} (h : ¬ b = w) : (lkC w k u M).1 b j = M.1 b j := by
  unfold lkC
  by_cases e : k % 10 = 0 ∧ 0 < k ∧ k ≤ 50
  · rw [if_pos e, wi_rwo h]
  · rw [if_neg e]
theorem lkM_2 {t a k : Nat} {u : Int32} {M : Mem} : (lkQ t a k u M).2 = M.2 := by
  unfold lkQ
  split <;> rfl
theorem lkC_2 {w k : Nat} {u : Int32} {M : Mem} : (lkC w k u M).2 = M.2 := by
  unfold lkC
  split <;> rfl
/-- the looks that are kept so far are alike -/
def LKs (x a k : Nat) (M1 N1 : Mem) : Prop := ∀ c, c < 5 → 10 * (c + 1) < k → M1.1 (x + 92) c = N1.1 (x + 95 + 21) (5 * a + c) ∧ 0 ≤ (M1.1 (x + 92) c).toInt ∧ (M1.1 (x + 92) c).toInt ≤ 128
theorem LKs.next {x a k : Nat} {u : Int32} {M1 N1 : Mem} (h : LKs x a k M1 N1) (hu : 0 ≤ u.toInt ∧ u.toInt ≤ 128) : LKs x a (k + 1) (lkC (x + 92) k u M1) (lkQ (x + 95) a k u N1) := fun c hc hk => by
  unfold lkC lkQ
  by_cases e : k = 10 * (c + 1)
  · rw [if_pos (by omega), if_pos (by omega)]
    have e1 : k / 10 - 1 = c := by omega
    have e2 : 5 * a + k / 10 - 1 = 5 * a + c := by omega
    rw [e1, e2, wi_hit, wi_hit]
    exact ⟨rfl, hu⟩
  · have := h c hc (by omega)
    by_cases g : k % 10 = 0 ∧ 0 < k ∧ k ≤ 50
    · rw [if_pos g, if_pos g, wi_sl (by omega), wi_sl (by omega)]
      exact this
    · rw [if_neg g, if_neg g]
      exact this
def frC (x : Nat) (M1 M2 : Mem) : Prop := ∀ b k, ¬ (b = x + 7 ∨ b = x + 10 ∨ b = x + 15 ∨ b = x + 18 ∨ (x + 80 ≤ b ∧ b < x + 92) ∨ b = x + 92) → M2.1 b k = M1.1 b k
def frN (x a : Nat) (N1 N2 : Mem) : Prop := ∀ b k, ¬ b = x + 95 + 8 → ¬ (x + 95 + 10 ≤ b ∧ b ≤ x + 95 + 14) → ¬ (b = x + 95 ∧ k = 29) → ¬ (b = x + 95 + 21 ∧ 5 * a ≤ k ∧ k < 5 * a + 5) → N2.1 b k = N1.1 b k
theorem frC.rf {x : Nat} {M : Mem} : frC x M M := fun _ _ _ => rfl
theorem frN.rf {x a : Nat} {M : Mem} : frN x a M M := fun _ _ _ _ _ _ => rfl
theorem frC.tr {x : Nat} {M M1 M2 : Mem} (h1 : frC x M M1) (h2 : frC x M1 M2) : frC x M M2 := fun b k hb => (h2 b k hb).trans (h1 b k hb)
theorem frN.tr {x a : Nat} {M M1 M2 : Mem} (h1 : frN x a M M1) (h2 : frN x a M1 M2) : frN x a M M2 := fun b k h3 h4 h5 h6 => (h2 b k h3 h4 h5 h6).trans (h1 b k h3 h4 h5 h6)
/-- what the notes are, on both sides -/
def NT (x nn : Nat) (M N : Mem) : Prop := nn ≤ 8 ∧ M.1 (x + 19) 5 = Int32.ofNat nn ∧ N.1 (x + 95) 32 = Int32.ofNat nn ∧ ∀ j, j < nn → M.1 (x + 19 + 27) j = N.1 (x + 95 + 18) j ∧ M.1 (x + 19 + 28) j = N.1 (x + 95 + 19) j
theorem Inv2.nt {x : Nat} {L : LN} {M N : Mem} (h : Inv2 x L M N) : ∃ nn, NT x nn M N := by
  obtain ⟨_, _, _, _, _, _, _, _, _, ⟨n, nn, c1, c2, c3⟩, _, _⟩ := h
  exact ⟨nn, c3.2.1, c3.2.2.2.1, c2, c3.2.2.2.2.2.2.2.2.1⟩
/-- one step of the model's: the flag, then a STEP -/
theorem mstep_as {x a k nn : Nat} {L : LN} {M N M1 N1 : Mem} {T : Int} {v : Int32} (hI : Inv2 x L M N) (hn : NT x nn M N) (ha : a ≤ 198) (hk : k ≤ 60) (hT : 0 ≤ T ∧ T ≤ 50000) (q : QR x L (L.1 2) (L.1 3) M N T M1 N1) (hv : v = 0 ∨ v = 1) (hs : N1.1 (x + 95) 29 = 0) : ∃ v' M2 N2, (v' = 0 ∨ v' = 1) ∧ (v' = 1 ↔ v = 1 ∧ NtA (N.1 (x + 95 + 18)) (N.1 (x + 95 + 19)) 0 nn (Int32.ofNat k) (levR (L.1 0) (N1.1 (x + 95 + 8)))) ∧ l_X11_isAsNoted_4 (x + 95) (Int32.ofNat a) v (Int32.ofNat k) N1 = some (.inl (v', Int32.ofNat (k + 1), N2)) ∧ f_X9_step (x + 79 + 1) (M.2.2 0) (lkC (x + 92) k (levR (L.1 0) (N1.1 (x + 95 + 8))) M1) = some ((), M2) ∧ QR x L (L.1 2) (L.1 3) M N (T + 1) M2 N2 ∧ N2.1 (x + 95) 29 = 0 ∧ frC x M1 M2 ∧ frN x a N1 N2 ∧ (LKs x a k M1 N1 → LKs x a (k + 1) M2 N2) := by
  obtain ⟨lv1, lv2⟩ := q.level hI.1 hI.at ⟨by omega, by omega⟩
  have hlb := q.lvb hI.1 ⟨by omega, by omega⟩
  generalize hlev : levR (L.1 0) (N1.1 (x + 95 + 8)) = lev at lv1 lv2 hlb ⊢
  have q1 := q.wr (M2 := lkC (x + 92) k lev M1) (N2 := lkQ (x + 95) a k lev N1) hI.at (fun b k hb => lkC_o (by omega)) lkC_2 (fun b k hb => lkM_o (by omega)) lkM_2
  have hs1 : (lkQ (x + 95) a k lev N1).1 (x + 95) 29 = 0 := by rw [lkM_o (by omega)]; exact hs
  obtain ⟨M2, N2, e1, e2, q2, s2, fM2, vm2, _⟩ := q1.step hI.1 hI.at ⟨by omega, by omega⟩
  have h32 : N1.1 (x + 95) 32 = Int32.ofNat nn := by rw [q.2.1.1 _ _ (by omega)]; exact hn.2.2.1
  obtain ⟨v', h01, hv', e⟩ := mnot_loop h32 hn.1 ha hk e2 nn 0 FU v (by omega) (by unfold FU; have := hn.1; omega) hv
  have h18 : N1.1 (x + 95 + 18) = N.1 (x + 95 + 18) := funext fun j => q.2.1.1 _ _ (by omega)
  have h19 : N1.1 (x + 95 + 19) = N.1 (x + 95 + 19) := funext fun j => q.2.1.1 _ _ (by omega)
  rw [h18, h19] at hv'
  refine ⟨v', M2, N2, h01, hv', ?_, e1, q2, s2 hs1, fun b j hb => by rw [fM2 _ _ (by omega), lkC_o (by omega)], fun b j b1 b2 b3 b4 => by rw [vm2.1 _ _ b1 b2 b3, lkM_o b4], fun hl => ?_⟩
  · refine Wp.eq ?_
    unfold l_X11_isAsNoted_4
    refine Wp.ng (fun g => by have := (i_lt (a := 60) (b := k) (by omega) (by omega)).mp g; omega) (Wp.cl lv2 ?_)
    exact ⟨_, e, rfl⟩
  · intro c hc hk2
    have := hl.next hlb c hc hk2
    rw [fM2 _ _ (by omega), vm2.1 _ _ (by omega) (by omega) (by omega)]
    exact this
theorem as_end {x a : Nat} {L : LN} {M N M1 N1 : Mem} {T : Int} {v : Int32} (q : QR x L (L.1 2) (L.1 3) M N T M1 N1) (hv : v = 0 ∨ v = 1) : l_X11_isAsNoted_4 (x + 95) (Int32.ofNat a) v (Int32.ofNat 61) N1 = some (.inr (v, rcp N1 (x + 95 + 16) (x + 95 + 8) 665)) := by
  refine Wp.eq ?_
  unfold l_X11_isAsNoted_4
  exact Wp.ps (by decide) (Wp.cl q.bk (Wp.gp hv (Wp.ret rfl)))
theorem as_dead {x a nn : Nat} {L : LN} {M N : Mem} (hI : Inv2 x L M N) (hn : NT x nn M N) (ha : a ≤ 198) : ∀ (m k fm : Nat) (M1 N1 : Mem) (T : Int), k + m = 61 → m < fm → 0 ≤ T → T + m ≤ 50000 → QR x L (L.1 2) (L.1 3) M N T M1 N1 → N1.1 (x + 95) 29 = 0 → ∃ M3 N3 T3, lop3 fm (l_X11_isAsNoted_4 (x + 95) (Int32.ofNat a)) 0 (Int32.ofNat k) N1 = some (0, rcp N3 (x + 95 + 16) (x + 95 + 8) 665) ∧ QR x L (L.1 2) (L.1 3) M N T3 M3 N3 ∧ N3.1 (x + 95) 29 = 0 ∧ frN x a N1 N3 := by
  intro m
  induction m with
  | zero =>
    intro k fm M1 N1 T hk hf hT0 hT q hs
    obtain ⟨fm, rfl⟩ : ∃ q, fm = q + 1 := ⟨fm - 1, by omega⟩
    obtain rfl : k = 61 := by omega
    exact ⟨M1, N1, T, lop3_inr (as_end q (Or.inl rfl)), q, hs, frN.rf⟩
  | succ m ih =>
    intro k fm M1 N1 T hk hf hT0 hT q hs
    obtain ⟨fm, rfl⟩ : ∃ q, fm = q + 1 := ⟨fm - 1, by omega⟩
    obtain ⟨v', M2, N2, h01, hv', e, e1, q2, s2, fC, fN, _⟩ := mstep_as hI hn ha (show k ≤ 60 by omega) ⟨hT0, by omega⟩ q (Or.inl rfl) hs
    have hv0 : v' = 0 := by
      rcases h01 with g | g
      · exact g
      · exact absurd (hv'.mp g).1 (by decide)
    rw [hv0] at e
    obtain ⟨M3, N3, T3, r1, r2, r3, r4⟩ := ih (k + 1) fm M2 N2 (T + 1) (by omega) (by omega) (by omega) (by omega) q2 s2
    exact ⟨M3, N3, T3, (lop3_inl e).trans r1, r2, r3, fN.tr r4⟩
theorem as_loop {x a nn : Nat} {L : LN} {M N : Mem} (hI : Inv2 x L M N) (hn : NT x nn M N) (ha : a ≤ 198) : ∀ (m k fc fm : Nat) (M1 N1 : Mem) (T : Int), k + m = 61 → m < fc → m < fm → 0 ≤ T → T + m ≤ 50000 → QR x L (L.1 2) (L.1 3) M N T M1 N1 → N1.1 (x + 95) 29 = 0 → LKs x a k M1 N1 → ∃ v M2 M3 N3 T3, lop2 fc (l_X2_agrees_25 (x + 79) (x + 19) (M.2.2 0)) (Int32.ofNat k) M1 = some (v, M2) ∧ lop3 fm (l_X11_isAsNoted_4 (x + 95) (Int32.ofNat a)) 1 (Int32.ofNat k) N1 = some (v, rcp N3 (x + 95 + 16) (x + 95 + 8) 665) ∧ QR x L (L.1 2) (L.1 3) M N T3 M3 N3 ∧ N3.1 (x + 95) 29 = 0 ∧ frN x a N1 N3 ∧ FQ x M M2 ∧ frC x M1 M2 ∧ (v = 0 ∨ (v = 1 ∧ LKs x a 61 M2 N3)) := by
  intro m
  induction m with
  | zero =>
    intro k fc fm M1 N1 T hk hc hf hT0 hT q hs hl
    obtain ⟨fm, rfl⟩ : ∃ q, fm = q + 1 := ⟨fm - 1, by omega⟩
    obtain ⟨fc, rfl⟩ : ∃ q, fc = q + 1 := ⟨fc - 1, by omega⟩
    obtain rfl : k = 61 := by omega
    refine ⟨1, M1, M1, N1, T, lop2_inr (Wp.eq ?_), lop3_inr (as_end q (Or.inr rfl)), q, hs, frN.rf, q.1, frC.rf, Or.inr ⟨rfl, hl⟩⟩
    unfold l_X2_agrees_25
    exact Wp.ps (by decide) (Wp.ret rfl)
  | succ m ih =>
    intro k fc fm M1 N1 T hk hc hf hT0 hT q hs hl
    obtain ⟨fm, rfl⟩ : ∃ q, fm = q + 1 := ⟨fm - 1, by omega⟩
    obtain ⟨fc, rfl⟩ : ∃ q, fc = q + 1 := ⟨fc - 1, by omega⟩
    obtain ⟨v', M2, N2, h01, hv', e, e1, q2, s2, fC, fN, hlk⟩ := mstep_as hI hn ha (show k ≤ 60 by omega) ⟨hT0, by omega⟩ q (Or.inr rfl) hs
    obtain ⟨lv1, lv2⟩ := q.level hI.1 hI.at ⟨by omega, by omega⟩
    generalize levR (L.1 0) (N1.1 (x + 95 + 8)) = lev at hv' e1 lv1
    have h5 : M1.1 (x + 19) 5 = Int32.ofNat nn := by rw [q.1.1 _ _ (by omega)]; exact hn.2.1
    obtain ⟨w, ew, hw⟩ := e_isNoted (k := Int32.ofNat k) (lev := lev) h5 hn.1
    have hnt : NtA (M1.1 (x + 19 + 27)) (M1.1 (x + 19 + 28)) 0 nn (Int32.ofNat k) lev ↔ NtA (N.1 (x + 95 + 18)) (N.1 (x + 95 + 19)) 0 nn (Int32.ofNat k) lev := by
      have e1 : ∀ i, i < nn → M1.1 (x + 19 + 27) i = N.1 (x + 95 + 18) i ∧ M1.1 (x + 19 + 28) i = N.1 (x + 95 + 19) i := fun i hi => by
        rw [q.1.1 _ _ (by omega), q.1.1 _ _ (by omega)]
        exact hn.2.2.2 i hi
      constructor
      · intro h i a b g
        rw [← (e1 i b).2]
        exact h i a b (by rw [(e1 i b).1]; exact g)
      · intro h i a b g
        rw [(e1 i b).2]
        exact h i a b (by rw [← (e1 i b).1]; exact g)
    rw [hnt] at hw
    have i60 : ¬ (60 : Int32) < Int32.ofNat k := fun g => by
      have := (i_lt (a := 60) (b := k) (by omega) (by omega)).mp g
      omega
    rcases hw with ⟨hw1, hw2⟩ | ⟨hw1, hw2⟩
    · subst hw1
      have hv1 : v' = 1 := hv'.mpr ⟨rfl, hw2⟩
      rw [hv1] at e
      have b1 : l_X2_agrees_25 (x + 79) (x + 19) (M.2.2 0) (Int32.ofNat k) M1 = some (.inl (Int32.ofNat (k + 1), M2)) := by
        refine Wp.eq ?_
        unfold l_X2_agrees_25
        refine Wp.ng i60 (Wp.cl lv1 (Wp.cl ew (Wp.ng (by decide) (Wp.j1 ?_))))
        have fin : ∀ M10, M10 = lkC (x + 92) k lev M1 → Wp (bd (f_X9_step (x + 79 + 1) (M.2.2 0) M10) (fun _ M12 => nm (Int32.ofNat k + (1 : Int32)) (fun y13 => some (.inl (y13, M12))))) (fun q => q = (.inl (Int32.ofNat (k + 1), M2) : (Int32 × Mem) ⊕ (Int32 × Mem))) := fun M10 g => by
          subst g
          refine Wp.cl e1 (Wp.nam ?_)
          rw [i_ad1]
          exact Wp.ret rfl
        refine Wp.br (fun g => ?_) (fun g => ?_)
        · have : k ≤ 0 := (i_le (a := k) (b := 0) (by omega) (by omega)).mp g
          exact fin _ (by unfold lkC; rw [if_neg (by omega)])
        · have hk0 : 0 < k := Nat.lt_of_not_le fun e => g ((i_le (a := k) (b := 0) (by omega) (by omega)).mpr e)
          refine Wp.br (fun g2 => ?_) (fun g2 => ?_)
          · have h10 := (i_r10 (by omega)).mp g2
            have e2 : Int32.ofNat (k / 10) - 1 = Int32.ofNat (k / 10 - 1) := i_sbn (b := 1) (by omega)
            rw [i_d10 (by omega), e2]
            by_cases g3 : k ≤ 50
            · refine Wp.cl (put_nat (by omega) (by decide)) (fin _ ?_)
              unfold lkC
              rw [if_pos (by omega)]
            · refine Wp.cl (put_out (by omega) (by omega)) (fin _ ?_)
              unfold lkC
              rw [if_neg (by omega)]
          · have h10 : ¬ k % 10 = 0 := fun e => g2 ((i_r10 (by omega)).mpr e)
            exact fin _ (by unfold lkC; rw [if_neg (by omega)])
      obtain ⟨v, M4, M3, N3, T3, r1, r2, r3, r4, r5, r6, r7, r8⟩ := ih (k + 1) fc fm M2 N2 (T + 1) (by omega) (by omega) (by omega) (by omega) (by omega) q2 s2 (hlk hl)
      exact ⟨v, M4, M3, N3, T3, (lop2_inl b1).trans r1, (lop3_inl e).trans r2, r3, r4, fN.tr r5, r6, fC.tr r7, r8⟩
    · subst hw1
      have hv0 : v' = 0 := by
        rcases h01 with g | g
        · exact g
        · exact absurd (hv'.mp g).2 hw2
      rw [hv0] at e
      obtain ⟨M3, N3, T3, r1, r2, r3, r4⟩ := as_dead hI hn ha m (k + 1) fm M2 N2 (T + 1) (by omega) (by omega) (by omega) (by omega) q2 s2
      refine ⟨0, M1, M3, N3, T3, lop2_inr (Wp.eq ?_), (lop3_inl e).trans r1, r2, r3, fN.tr r4, q.1, frC.rf, Or.inl rfl⟩
      unfold l_X2_agrees_25
      exact Wp.ng i60 (Wp.cl lv1 (Wp.cl ew (Wp.ps rfl (Wp.ret rfl))))
