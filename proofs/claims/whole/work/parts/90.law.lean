/-! Between the calls: fresh, or begun -/
def Fresh (x : Nat) (M N : Mem) : Prop := ((M.2.2 0 = x + 3 ∧ M.2.2 1 = x + 11) ∨ (M.2.2 0 = x + 11 ∧ M.2.2 1 = x + 3)) ∧ LineC M (M.2.2 0) L0 ∧ TPE x M N ∧ M.1 (x + 1) 7 = N.1 (x + 95) 21 ∧ N.1 (x + 95) 29 = 0 ∧ N.1 (x + 95) 9 = 0 ∧ M.1 (x + 19) 2 = 0 ∧ M.1 (x + 19) 5 = 0 ∧ W0 L0 0 (getW M (x + 19 + 1)) (r0 L0) ∧ W0 L0 0 (getW M (x + 19 + 13)) (r0 L0) ∧ (∀ j, j < 3 → M.1 (x + 19 + 29) j = N.1 (x + 95 + 7) j) ∧ M.1 x 4 = 0
def Pre (x : Nat) (M N : Mem) : Prop := Fresh x M N ∨ ∃ L, Inv2 x L M N
theorem LineC.cg3 {r r' : Nat} {M M' : Mem} {L : LN} (h : LineC M r L) (hr : r' = r) (e : ∀ b k, (b = r ∨ b = r + 1 ∨ b = r + 2 ∨ b = r + 3 ∨ b = r + 5 ∨ b = r + 6) → M'.1 b k = M.1 b k) : LineC M' r' L := by
  subst hr
  exact h.cg e
theorem Fresh.cg {x : Nat} {M N M' N' : Mem} (h : Fresh x M N) (hM : ∀ b k, x ≤ b → b < x + 95 → M'.1 b k = M.1 b k) (h0 : M'.2.2 0 = M.2.2 0) (h1 : M'.2.2 1 = M.2.2 1) (hN : ∀ b k, x + 95 ≤ b → b < x + 122 → N'.1 b k = N.1 b k) : Fresh x M' N' := by
  obtain ⟨a1, a2, ⟨k, b1, b2, b3, b4⟩, a4, a5, a6, a7, a8, a9, a10, a11, a12⟩ := h
  have hr : M.2.2 0 = x + 3 ∨ M.2.2 0 = x + 11 := a1.elim (fun q => Or.inl q.1) (fun q => Or.inr q.1)
  exact ⟨by rw [h0, h1]; exact a1, a2.cg3 h0 (fun b k hb => hM b k (by omega) (by omega)), ⟨k, b1, by rw [hM _ _ (by omega) (by omega)]; exact b2, by rw [hN _ _ (by omega) (by omega)]; exact b3, fun j hj => by rw [hM _ _ (by omega) (by omega), hN _ _ (by omega) (by omega)]; exact b4 j hj⟩, by rw [hM _ _ (by omega) (by omega), hN _ _ (by omega) (by omega)]; exact a4, by rw [hN _ _ (by omega) (by omega)]; exact a5, by rw [hN _ _ (by omega) (by omega)]; exact a6, by rw [hM _ _ (by omega) (by omega)]; exact a7, by rw [hM _ _ (by omega) (by omega)]; exact a8, a9.lv (Lv.of fun d k hd => hM _ _ (by omega) (by omega)), a10.lv (Lv.of fun d k hd => hM _ _ (by omega) (by omega)), fun j hj => by rw [hM _ _ (by omega) (by omega), hN _ _ (by omega) (by omega)]; exact a11 j hj, by rw [hM _ _ (by omega) (by omega)]; exact a12⟩
theorem Inv2.cgA {x : Nat} {L : LN} {M N M' N' : Mem} (h : Inv2 x L M N) (hM : ∀ b k, x ≤ b → b < x + 95 → M'.1 b k = M.1 b k) (h0 : M'.2.2 0 = M.2.2 0) (h1 : M'.2.2 1 = M.2.2 1) (hN : ∀ b k, x + 95 ≤ b → b < x + 122 → N'.1 b k = N.1 b k) : Inv2 x L M' N' := by
  have ha := h.at
  obtain ⟨a1, a2, a3, a4, a5, a6, a7, ⟨k, b1, b2, b3, b4⟩, a9, ⟨n, nn, c1, c2, c3⟩, ⟨d1, d2, d3⟩, a12⟩ := h
  unfold lineAt at ha
  refine ⟨a1, by rw [h0, h1]; exact a2, a3.cg3 h0 (fun b k hb => hM b k (by omega) (by omega)), a4.cg (fun b k hb => hN b k (by omega) (by omega)) (a4.2.2.2.2.cg (funext fun _ => hN _ _ (by omega) (by omega)) (funext fun _ => hN _ _ (by omega) (by omega)) (funext fun _ => hN _ _ (by omega) (by omega))), by rw [hN _ _ (by omega) (by omega)]; exact a5, by rw [hN _ _ (by omega) (by omega)]; exact a6, by rw [hN _ _ (by omega) (by omega)]; exact a7, ⟨k, b1, by rw [hM _ _ (by omega) (by omega)]; exact b2, by rw [hN _ _ (by omega) (by omega)]; exact b3, fun j hj => by rw [hM _ _ (by omega) (by omega), hN _ _ (by omega) (by omega)]; exact b4 j hj⟩, by rw [hM _ _ (by omega) (by omega), hN _ _ (by omega) (by omega)]; exact a9, ⟨n, nn, by rw [hN _ _ (by omega) (by omega)]; exact c1, by rw [hN _ _ (by omega) (by omega)]; exact c2, c3.cg (fun b k h1 h2 => hM b k (by omega) (by omega)) (fun j hj => hN _ _ (by omega) (by omega)) (fun j hj => hN _ _ (by omega) (by omega)) (fun j hj => hN _ _ (by omega) (by omega)) (fun j hj => hN _ _ (by omega) (by omega)) (fun j hj => hN _ _ (by omega) (by omega))⟩, ⟨by rw [hM _ _ (by omega) (by omega), hN _ _ (by omega) (by omega)]; exact d1, by rw [hM _ _ (by omega) (by omega)]; exact d2, fun h4 => ?_⟩, by rw [hN _ _ (by omega) (by omega)]; exact a12⟩
  rw [hM _ _ (by omega) (by omega)] at h4
  obtain ⟨n, nn, e1, e2, e3⟩ := d3 h4
  exact ⟨n, nn, by rw [hN _ _ (by omega) (by omega)]; exact e1, by rw [hN _ _ (by omega) (by omega)]; exact e2, e3.cg (fun b k h1 h2 => hM b k (by omega) (by omega)) (fun j hj => hN _ _ (by omega) (by omega)) (fun j hj => hN _ _ (by omega) (by omega)) (fun j hj => hN _ _ (by omega) (by omega)) (fun j hj => hN _ _ (by omega) (by omega)) (fun j hj => hN _ _ (by omega) (by omega))⟩
theorem Pre.cg {x : Nat} {M N M' N' : Mem} (h : Pre x M N) (hM : ∀ b k, x ≤ b → b < x + 95 → M'.1 b k = M.1 b k) (h0 : M'.2.2 0 = M.2.2 0) (h1 : M'.2.2 1 = M.2.2 1) (hN : ∀ b k, x + 95 ≤ b → b < x + 122 → N'.1 b k = N.1 b k) : Pre x M' N' := by
  rcases h with h | ⟨L, h⟩
  · exact Or.inl (h.cg hM h0 h1 hN)
  · exact Or.inr ⟨L, h.cgA hM h0 h1 hN⟩
/-- the model is made ready -/
theorem Pre.rdy {x : Nat} {M N : Mem} (h : Pre x M N) : ∃ L N1, Rdy x L M N N1 ∧ FrM x N N1 := by
  rcases h with h | ⟨L, h⟩
  · obtain ⟨a1, a2, a3, a4, a5, a6, a7, a8, a9, a10, a11, a12⟩ := h
    generalize hN1 : wi (wi N (x + 95) 2 0) (x + 95) 9 1 = N1
    have o1 : ∀ b k, ¬ (b = x + 95 ∧ (k = 2 ∨ k = 9)) → N1.1 b k = N.1 b k := fun b k q => by
      rw [← hN1]
      simp only [wi]
      rw [if_neg (by omega), if_neg (by omega)]
    have v2 : N1.1 (x + 95) 2 = 0 := by rw [← hN1, wi_sl (by decide), wi_hit]
    have v9 : N1.1 (x + 95) 9 = 1 := by rw [← hN1, wi_hit]
    have z1 : N1.2 = N.2 := by rw [← hN1]; rfl
    obtain ⟨N2, t1, t2, t3, t4, t5, t6, t7⟩ := told_ok (t := x + 95) (N := N1)
    obtain ⟨N3, s1, s2, s3, s4, s5, s6, s7, s8, s9, s10⟩ := take_over (x := x) (L := L0) (N := N2) t2 (fun k hk => by
      have e7 : (L0.1 7).toInt = 1 := rfl
      rw [e7] at hk
      have : k = 0 := by omega
      subst this
      exact t5) ⟨t3, fun j hj => absurd hj (Nat.not_lt_zero _)⟩ ⟨t4, fun j hj => absurd hj (Nat.not_lt_zero _)⟩ (by decide) (by decide)
    have g : ∀ b q, ¬ (x + 95 + 3 ≤ b ∧ b ≤ x + 95 + 6) → ¬ b = x + 95 + 8 → ¬ b = x + 95 + 14 → ¬ (b = x + 95 ∧ (q = 24 ∨ q = 25 ∨ q = 31 ∨ q = 32 ∨ q = 44)) → N3.1 b q = N1.1 b q := fun b q q1 q2 q3 q4 => by rw [s9 b q q1 q2 q3 q4, t6 _ _ (by omega) (by omega)]
    have g0 : ∀ b q, ¬ (x + 95 + 3 ≤ b ∧ b ≤ x + 95 + 6) → ¬ b = x + 95 + 8 → ¬ b = x + 95 + 14 → ¬ (b = x + 95 ∧ (q = 24 ∨ q = 25 ∨ q = 31 ∨ q = 32 ∨ q = 44 ∨ q = 2 ∨ q = 9)) → N3.1 b q = N.1 b q := fun b q q1 q2 q3 q4 => by rw [g b q q1 q2 q3 (by omega), o1 _ _ (by omega)]
    refine ⟨L0, N3, ⟨Wp.eq ?_, ⟨L0_wf, a1, a2, s2, s3, s4, ?_, ?_, ?_, ⟨0, 0, s5, s6, ⟨Nat.zero_le _, Nat.zero_le _, a7, a8, fun j hj => absurd hj (Nat.not_lt_zero _), ⟨0, a9.rg (fun j hj => s8 j hj)⟩, ⟨0, ?_⟩, fun j hj => absurd hj (Nat.not_lt_zero _), fun j hj => absurd hj (Nat.not_lt_zero _), fun j hj => ?_⟩⟩, ⟨?_, Or.inl a12, fun q => absurd a12 q⟩, ?_⟩, ?_⟩, ⟨fun b k q => ?_, ?_⟩⟩
    · unfold f_X11_ready
      have e9 : (wi N (x + 95) 2 0).1 (x + 95) 9 = 0 := by rw [wi_sl (by decide)]; exact a6
      refine Wp.nam (Wp.ps e9 (Wp.nam ?_))
      rw [hN1]
      exact Wp.cl t1 (Wp.cl s1 (Wp.ret rfl))
    · rw [g0 _ _ (by omega) (by omega) (by omega) (by omega)]; exact a5
    · obtain ⟨k, b1, b2, b3, b4⟩ := a3
      exact ⟨k, b1, b2, by rw [g0 _ _ (by omega) (by omega) (by omega) (by omega)]; exact b3, fun j hj => by rw [g0 _ _ (by omega) (by omega) (by omega) (by omega)]; exact b4 j hj⟩
    · rw [g0 _ _ (by omega) (by omega) (by omega) (by omega)]; exact a4
    · refine a10.rg (fun j hj => ?_)
      unfold prR
      rw [if_neg (by omega)]
      exact s8 j hj
    · rw [g0 _ _ (by omega) (by omega) (by omega) (by omega)]; exact a11 j hj
    · rw [a12, s7]
    · rw [g _ _ (by omega) (by omega) (by omega) (by omega)]; exact v9
    · rw [g _ _ (by omega) (by omega) (by omega) (by omega)]; exact v2
    · rw [g0 _ _ (by omega) (by omega) (by omega) (by omega)]
    · rw [s10, t7, z1]
  · have h9 := h.2.2.2.2.2.2.2.2.2.2.2
    refine ⟨L, wi N (x + 95) 2 0, ⟨Wp.eq ?_, h.fail, wi_hit⟩, GQ.code.fr⟩
    unfold f_X11_ready
    refine Wp.nam (Wp.ng ?_ (Wp.ret rfl))
    rw [wi_sl (by decide), h9]
    decide
/-- behind feed -/
theorem Pre.feed {x : Nat} {M N M' N' : Mem} (h : Pre x M N) (ht : TPE x M' N') (hM : ∀ b k, ¬ (b = x + 1 ∧ k = 1) → ¬ b = x + 2 → M'.1 b k = M.1 b k) (hM2 : M'.2 = M.2) (hN : ∀ b k, ¬ (b = x + 95 ∧ (k = 2 ∨ k = 12)) → ¬ b = x + 95 + 9 → N'.1 b k = N.1 b k) : Pre x M' N' := by
  have h0 : M'.2.2 0 = M.2.2 0 := by rw [hM2]
  have h1 : M'.2.2 1 = M.2.2 1 := by rw [hM2]
  rcases h with h | ⟨L, h⟩
  · left
    obtain ⟨a1, a2, _, a4, a5, a6, a7, a8, a9, a10, a11, a12⟩ := h
    have hr : M.2.2 0 = x + 3 ∨ M.2.2 0 = x + 11 := a1.elim (fun q => Or.inl q.1) (fun q => Or.inr q.1)
    exact ⟨by rw [h0, h1]; exact a1, a2.cg3 h0 (fun b k hb => hM b k (by omega) (by omega)), ht, by rw [hM _ _ (by omega) (by omega), hN _ _ (by omega) (by omega)]; exact a4, by rw [hN _ _ (by omega) (by omega)]; exact a5, by rw [hN _ _ (by omega) (by omega)]; exact a6, by rw [hM _ _ (by omega) (by omega)]; exact a7, by rw [hM _ _ (by omega) (by omega)]; exact a8, a9.lv (Lv.of fun d k hd => hM _ _ (by omega) (by omega)), a10.lv (Lv.of fun d k hd => hM _ _ (by omega) (by omega)), fun j hj => by rw [hM _ _ (by omega) (by omega), hN _ _ (by omega) (by omega)]; exact a11 j hj, by rw [hM _ _ (by omega) (by omega)]; exact a12⟩
  · right
    refine ⟨L, ?_⟩
    have ha := h.at
    obtain ⟨a1, a2, a3, a4, a5, a6, a7, _, a9, ⟨n, nn, c1, c2, c3⟩, ⟨d1, d2, d3⟩, a12⟩ := h
    unfold lineAt at ha
    refine ⟨a1, by rw [h0, h1]; exact a2, a3.cg3 h0 (fun b k hb => hM b k (by omega) (by omega)), a4.cg (fun b k hb => hN b k (by omega) (by omega)) (a4.2.2.2.2.cg (funext fun _ => hN _ _ (by omega) (by omega)) (funext fun _ => hN _ _ (by omega) (by omega)) (funext fun _ => hN _ _ (by omega) (by omega))), by rw [hN _ _ (by omega) (by omega)]; exact a5, by rw [hN _ _ (by omega) (by omega)]; exact a6, by rw [hN _ _ (by omega) (by omega)]; exact a7, ht, by rw [hM _ _ (by omega) (by omega), hN _ _ (by omega) (by omega)]; exact a9, ⟨n, nn, by rw [hN _ _ (by omega) (by omega)]; exact c1, by rw [hN _ _ (by omega) (by omega)]; exact c2, c3.cg (fun b k h1 h2 => hM b k (by omega) (by omega)) (fun j hj => hN _ _ (by omega) (by omega)) (fun j hj => hN _ _ (by omega) (by omega)) (fun j hj => hN _ _ (by omega) (by omega)) (fun j hj => hN _ _ (by omega) (by omega)) (fun j hj => hN _ _ (by omega) (by omega))⟩, ⟨by rw [hM _ _ (by omega) (by omega), hN _ _ (by omega) (by omega)]; exact d1, by rw [hM _ _ (by omega) (by omega)]; exact d2, fun h4 => ?_⟩, by rw [hN _ _ (by omega) (by omega)]; exact a12⟩
    rw [hM _ _ (by omega) (by omega)] at h4
    obtain ⟨n, nn, e1, e2, e3⟩ := d3 h4
    exact ⟨n, nn, by rw [hN _ _ (by omega) (by omega)]; exact e1, by rw [hN _ _ (by omega) (by omega)]; exact e2, e3.cg (fun b k h1 h2 => hM b k (by omega) (by omega)) (fun j hj => hN _ _ (by omega) (by omega)) (fun j hj => hN _ _ (by omega) (by omega)) (fun j hj => hN _ _ (by omega) (by omega)) (fun j hj => hN _ _ (by omega) (by omega)) (fun j hj => hN _ _ (by omega) (by omega))⟩
theorem Pre.tpe {x : Nat} {M N : Mem} (h : Pre x M N) : TPE x M N := by
  rcases h with h | ⟨L, h⟩
  · exact h.2.2.1
  · exact h.2.2.2.2.2.2.2.1
/-- what the law keeps -/
def IV (x : Nat) (M : Mem) : Prop := Pre x M M
theorem law_feed {x : Nat} {a b c d e : Int32} {M : Mem} (h : IV x M) : ∃ v M1 M2, f_X10_feed x a b c d e M = some (v, M1) ∧ f_X11_feed (x + 95) a b c d e M1 = some (v, M2) ∧ IV x M2 := by
  obtain ⟨v, M1, N1, c1, c2, c3, c4, c5, c6, c7⟩ := feed_ok (a := a) (b := b) (c := c) (d := d) (e := e) (Pre.tpe h)
  -- the same again, with the class's changes in the model's memory
  have h' : TPE x M M1 := by
    obtain ⟨k, k1, k2, k3, k4⟩ := Pre.tpe h
    exact ⟨k, k1, k2, by rw [c4 _ _ (by omega) (by omega)]; exact k3, fun j hj => by rw [c4 (x + 95 + 9) _ (by omega) (by omega)]; exact k4 j hj⟩
  obtain ⟨v', M1', N2, d1, d2, d3, d4, d5, d6, d7⟩ := feed_ok (a := a) (b := b) (c := c) (d := d) (e := e) h'
  have hv := Prod.mk.inj (Option.some.inj (c1.symm.trans d1))
  obtain ⟨e1, e2⟩ := hv
  subst e1 e2
  refine ⟨v, M1, N2, c1, d2, ?_⟩
  have p1 : Pre x M M1 := Pre.cg h (fun _ _ _ _ => rfl) rfl rfl (fun b k q1 q2 => c4 _ _ (by omega) (by omega))
  have p2 : Pre x M1 N2 := p1.feed d3 c4 c5 d6
  exact p2.cg (fun b k q1 q2 => d6 _ _ (by omega) (by omega)) (by rw [d7]) (by rw [d7]) (fun _ _ _ _ => rfl)
theorem FrM.tr {x : Nat} {N N1 N2 : Mem} (h1 : FrM x N N1) (h2 : FrM x N1 N2) : FrM x N N2 := ⟨fun b k q => (h2.1 b k q).trans (h1.1 b k q), h2.2.trans h1.2⟩
theorem Pre.ofI {x : Nat} {L : LN} {M N : Mem} (h : Inv2 x L M N) (hf : FrM x M N) : IV x N := Pre.cg (Or.inr ⟨L, h⟩) (fun b k q1 q2 => hf.1 _ _ (by omega)) (by rw [hf.2]) (by rw [hf.2]) (fun _ _ _ _ => rfl)
theorem law_V {x : Nat} {fc fm : Mem → Option (Int32 × Mem)} {M : Mem} (h : IV x M) (call : ∀ L M N0 N, Rdy x L M N0 N → CallV x M N (fc M) (fm N0)) : ∃ v M1 M2, fc M = some (v, M1) ∧ fm M1 = some (v, M2) ∧ IV x M2 := by
  obtain ⟨L, N, hr, _⟩ := Pre.rdy h
  obtain ⟨v, M1, N1, L1, e1, e2, e3, e4, e5⟩ := call _ _ _ _ hr
  have p1 : Pre x M M1 := Pre.cg h (fun _ _ _ _ => rfl) rfl rfl (fun b k q1 q2 => e4.1 _ _ (by omega))
  obtain ⟨L', N', hr', hf'⟩ := p1.rdy
  obtain ⟨v', M1', N2, L2, d1, d2, d3, d4, d5⟩ := call _ _ _ _ hr'
  obtain ⟨q1, q2⟩ := Prod.mk.inj (Option.some.inj (e1.symm.trans d1))
  subst q1 q2
  exact ⟨v, M1, N2, e1, d2, Pre.ofI d3 (hf'.tr d5)⟩
theorem law_U {x : Nat} {fc fm : Mem → Option (Unit × Mem)} {M : Mem} (h : IV x M) (call : ∀ L M N0 N, Rdy x L M N0 N → CallU x M N (fc M) (fm N0)) : ∃ M1 M2, fc M = some ((), M1) ∧ fm M1 = some ((), M2) ∧ IV x M2 := by
  obtain ⟨L, N, hr, _⟩ := Pre.rdy h
  obtain ⟨M1, N1, L1, e1, e2, e3, e4, e5⟩ := call _ _ _ _ hr
  have p1 : Pre x M M1 := Pre.cg h (fun _ _ _ _ => rfl) rfl rfl (fun b k q1 q2 => e4.1 _ _ (by omega))
  obtain ⟨L', N', hr', hf'⟩ := p1.rdy
  obtain ⟨M1', N2, L2, d1, d2, d3, d4, d5⟩ := call _ _ _ _ hr'
  have q2 := (Prod.mk.inj (Option.some.inj (e1.symm.trans d1))).2
  subst q2
  exact ⟨M1, N2, e1, d2, Pre.ofI d3 (hf'.tr d5)⟩
theorem law_T {x : Nat} {κ : Nat → Int32} {fL : Mem → Option (Int32 × Mem)} {fc : Mem → Option ((Int32 ⊕ Nat) × Mem)} {fm : Mem → Option (Int32 × Mem)} {M : Mem} (h : IV x M) (call : ∀ L M N0 N, Rdy x L M N0 N → CallT x κ M N (fc M) (fm N0)) (hin : ∀ v M1, fc M = some (.inl v, M1) → fL M = some (0, wl M1 (x + 122) 0 v.toInt64)) (her : ∀ e M1, fc M = some (.inr e, M1) → ¬ κ e = 0 → fL M = some (κ e, M1)) : ∃ u M1 v M2, fL M = some (u, M1) ∧ fm M1 = some (v, M2) ∧ M2.1 (x + 95) 2 = u ∧ IV x M2 ∧ (u = 0 → lg_cmp (M2.2.1 (x + 122) 0) v.toInt64 = 0) := by
  obtain ⟨L, N, hr, _⟩ := Pre.rdy h
  obtain ⟨r, M1, v1, N1, L1, e1, e2, e3, e4, e5, e6⟩ := call _ _ _ _ hr
  have go : ∀ Mw : Mem, (∀ b k, Mw.1 b k = M1.1 b k) → (Mw.2.2 = M1.2.2) → ∃ v2 N2 L2, fm Mw = some (v2, N2) ∧ Inv2 x L2 M1 N2 ∧ FrM x Mw N2 ∧ ((r = .inl v2 ∧ N2.1 (x + 95) 2 = 0) ∨ (∃ e, r = .inr e ∧ N2.1 (x + 95) 2 = κ e ∧ ¬ κ e = 0)) := fun Mw hw hw2 => by
    have p1 : Pre x M Mw := Pre.cg h (fun _ _ _ _ => rfl) rfl rfl (fun b k q1 q2 => by rw [hw, e4.1 _ _ (by omega)])
    obtain ⟨L', N', hr', hf'⟩ := p1.rdy
    obtain ⟨r', M1', v2, N2, L2, d1, d2, d3, d4, d5, d6⟩ := call _ _ _ _ hr'
    obtain ⟨q1, q2⟩ := Prod.mk.inj (Option.some.inj (e1.symm.trans d1))
    subst q1 q2
    exact ⟨v2, N2, L2, d2, d3, hf'.tr d5, d6⟩
  have iv : ∀ (Mw N2 : Mem) (L2 : LN), (∀ b k, Mw.1 b k = M1.1 b k) → (Mw.2.2 = M1.2.2) → Inv2 x L2 M1 N2 → FrM x Mw N2 → IV x N2 := fun Mw N2 L2 hw hw2 hI hf => Pre.cg (Or.inr ⟨L2, hI⟩) (fun b k q1 q2 => by rw [hf.1 _ _ (by omega), hw]) (by rw [hf.2, hw2]) (by rw [hf.2, hw2]) (fun _ _ _ _ => rfl)
  rcases e6 with ⟨hr1, _⟩ | ⟨e, hr1, _, hne⟩
  · rw [hr1] at e1
    obtain ⟨v2, N2, L2, g1, g2, g3, g4⟩ := go (wl M1 (x + 122) 0 v1.toInt64) (fun _ _ => rfl) rfl
    refine ⟨0, _, v2, N2, hin _ _ e1, g1, ?_, iv (wl M1 (x + 122) 0 v1.toInt64) N2 L2 (fun _ _ => rfl) rfl g2 g3, fun _ => ?_⟩
    · rcases g4 with ⟨_, q⟩ | ⟨e, q, _⟩
      · exact q
      · rw [hr1] at q
        exact absurd q (by intro z; injection z)
    · have hv : v2 = v1 := by
        rcases g4 with ⟨q, _⟩ | ⟨e, q, _⟩
        · rw [hr1] at q
          injection q with q
          exact q.symm
        · rw [hr1] at q
          exact absurd q (by intro z; injection z)
      rw [hv, g3.2]
      refine lgc.2.2.mpr ?_
      show (if x + 122 = x + 122 ∧ 0 = 0 then v1.toInt64 else M1.2.1 (x + 122) 0) = v1.toInt64
      rw [if_pos ⟨rfl, rfl⟩]
  · rw [hr1] at e1
    obtain ⟨v2, N2, L2, g1, g2, g3, g4⟩ := go M1 (fun _ _ => rfl) rfl
    refine ⟨κ e, M1, v2, N2, her _ _ e1 hne, g1, ?_, iv _ _ _ (fun _ _ => rfl) rfl g2 g3, fun q => absurd q hne⟩
    rcases g4 with ⟨q, _⟩ | ⟨e', q, q2, _⟩
    · rw [hr1] at q
      exact absurd q (by intro z; injection z)
    · rw [hr1] at q
      injection q with q
      rw [q2, q]
