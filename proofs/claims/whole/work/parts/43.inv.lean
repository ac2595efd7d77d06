/-! What holds between the calls. -/
theorem RWd.rg {L : LN} {p i : Int32} {T : Int} {c : CW} {r r' : Nat → Int32} {s sl : Int32} (h : RWd L p i T c r s sl) (e : ∀ j, j < 665 → r' j = r j) : RWd L p i T c r' s sl := by
  obtain ⟨m, ⟨⟨k1, k2, k3, k4, k5, k6, k7, k8, k9, k10, k11, k12, k13⟩, l2, l3, l4, l5, l6, l7⟩, h0, h22, h23⟩ := h
  refine ⟨m, ⟨⟨k1.cg (fun _ _ => rfl) (fun j hj => e j (by omega)), k2, k3, k4.cg (fun j hj => e j ?_), k5.cg (fun j hj => e j ?_), fun k hk => ?_, ?_, k8.cg (fun j hj => e j (by omega)), k9.cg (fun _ _ _ => rfl) (fun j a b => e j (by omega)), k10.cg (fun _ => rfl) (fun j hj => e j (by omega)), k11.cg (fun _ => rfl) (fun j hj => e j (by omega)), k12.cg rfl (e _ (by omega)) (e _ (by omega)), k13.cg rfl (fun j hj => e j ?_)⟩, by rw [e 31 (by omega)]; exact l2, l3, l4.cg (fun _ _ _ _ => rfl) (fun j a b => e j (by omega)), ?_, ?_, l7⟩, by rw [e 0 (by omega)]; exact h0, by rw [e 22 (by omega)]; exact h22, by rw [e 8 (by omega), e 23 (by omega)]; exact h23⟩
  · simp at hj; omega
  · simp at hj; omega
  · rw [e _ (by omega), e _ (by omega), e _ (by omega)]; exact k6 k hk
  · rw [e 2 (by omega)]; exact k7.cg (Int.le_refl _) (fun j hj => e j (by omega))
  · simp at hj; omega
  · rw [e 2 (by omega)]; exact l5.cg (Int.le_refl _) (fun k hk => e _ (by omega))
  · rw [e 2 (by omega)]; exact l6.cg (Int.le_refl _) (e _ (by omega)) (e _ (by omega))
theorem FT0 {fa fs sl sl' : Int32} (h : FT fa fs 0 sl) : FT fa fs 0 sl' := ⟨h.1, Or.inl rfl⟩
theorem RWd.sl {L : LN} {p i : Int32} {T : Int} {c : CW} {r : Nat → Int32} {sl : Int32} (sl' : Int32) (h : RWd L p i T c r 0 sl) : RWd L p i T c r 0 sl' := by
  obtain ⟨m, ⟨k, l2, l3, l4, l5, l6, l7⟩, h0⟩ := h
  exact ⟨m, ⟨k, l2, l3, l4, l5, l6, FT0 l7⟩, h0⟩
/-- a world and a row, at rest, at TIME T -/
def W0 (L : LN) (T : Int) (c : CW) (r : Nat → Int32) : Prop := 0 ≤ T ∧ T ≤ 20000 ∧ RWd L (L.1 2) (L.1 3) T c r 0 0
theorem W0.rg {L : LN} {T : Int} {c : CW} {r r' : Nat → Int32} (h : W0 L T c r) (e : ∀ j, j < 665 → r' j = r j) : W0 L T c r' := ⟨h.1, h.2.1, h.2.2.rg e⟩
theorem W0.lv {L : LN} {T : Int} {c c' : CW} {r : Nat → Int32} (h : W0 L T c r) (e : Lv c c') : W0 L T c' r := ⟨h.1, h.2.1, h.2.2.lv e⟩
def actC (L : LN) (kind num : Int32) (c : CW) : CW := if kind = 0 then itL L num.toInt.toNat c else if kind = 1 then uc c 1 6 num else if kind = 2 then uc c 1 7 num else if kind = 3 then uc c 1 0 num else if kind = 4 then uc c 5 2 num else uc c 5 1 num
def actOk (kind num : Int32) : Prop := (kind = 0 ∧ 1 ≤ num.toInt ∧ num.toInt ≤ 50) ∨ kind = 1 ∨ kind = 2 ∨ (kind = 3 ∧ -99 ≤ num.toInt ∧ num.toInt ≤ 99) ∨ kind = 4 ∨ kind = 5
/-- an act leads from a row to a row -/
def StR (L : LN) (kind num : Int32) (r r' : Nat → Int32) : Prop := ∀ c T, W0 L T c r → ∃ T', W0 L T' (actC L kind num c) r'
theorem StR.rg {L : LN} {kind num : Int32} {r r' s s' : Nat → Int32} (h : StR L kind num r r') (e1 : ∀ j, j < 665 → s j = r j) (e2 : ∀ j, j < 665 → s' j = r' j) : StR L kind num s s' := fun c T hc => by
  obtain ⟨T', h'⟩ := h c T (hc.rg (fun j hj => (e1 j hj).symm))
  exact ⟨T', h'.rg e2⟩
/-- the row ahead of the act of that number; the row now behind all -/
def prR (past r : Nat → Int32) (n j : Nat) : Nat → Int32 := if j < n then (fun k => past (665 * j + k)) else r
def SRn (L : LN) (M : Mem) (s0 : Nat) (r past nin nlev stat : Nat → Int32) (n nn : Nat) : Prop := n ≤ 40 ∧ nn ≤ 8 ∧ M.1 s0 2 = Int32.ofNat n ∧ M.1 s0 5 = Int32.ofNat nn ∧ (∀ j, j < n → actOk (M.1 (s0 + 25) j) (M.1 (s0 + 26) j)) ∧ (∃ T, W0 L T (getW M (s0 + 1)) r) ∧ (∃ T, W0 L T (getW M (s0 + 13)) (prR past r n 0)) ∧ (∀ j, j < n → StR L (M.1 (s0 + 25) j) (M.1 (s0 + 26) j) (prR past r n j) (prR past r n (j + 1))) ∧ (∀ j, j < nn → M.1 (s0 + 27) j = nin j ∧ M.1 (s0 + 28) j = nlev j) ∧ (∀ j, j < 3 → M.1 (s0 + 29) j = stat j)
theorem Lv.of {M M' : Mem} {w w' : Nat} (hd : ∀ d k, d < 12 → M'.1 (w' + d) k = M.1 (w + d) k) : Lv (getW M w) (getW M' w') := by
  have c1 : (lvs.all fun q => decide (q.1 < 12)) = true := by decide
  have c2 : (lva.all fun q => decide (q.1 < 12)) = true := by decide
  exact ⟨fun q hq => hd _ _ (by simpa using List.all_eq_true.mp c1 q hq), fun q hq k _ => hd _ _ (by simpa using List.all_eq_true.mp c2 q hq)⟩
theorem SRn.cg {L : LN} {M M' : Mem} {s0 : Nat} {r r' past past' nin nin' nlev nlev' stat stat' : Nat → Int32} {n nn : Nat} (h : SRn L M s0 r past nin nlev stat n nn) (hM : ∀ b k, s0 ≤ b → b < s0 + 30 → M'.1 b k = M.1 b k) (hr : ∀ j, j < 665 → r' j = r j) (hp : ∀ j, j < 26600 → past' j = past j) (h1 : ∀ j, j < 8 → nin' j = nin j) (h2 : ∀ j, j < 8 → nlev' j = nlev j) (h3 : ∀ j, j < 3 → stat' j = stat j) : SRn L M' s0 r' past' nin' nlev' stat' n nn := by
  obtain ⟨a1, a2, a3, a4, a5, ⟨T, a6⟩, ⟨T', a7⟩, a8, a9, a10⟩ := h
  have hpr : ∀ j, ∀ k, k < 665 → prR past' r' n j k = prR past r n j k := fun j k hk => by
    unfold prR
    by_cases e : j < n
    · rw [if_pos e, if_pos e]
      exact hp _ (by omega)
    · rw [if_neg e, if_neg e]
      exact hr k hk
  refine ⟨a1, a2, by rw [hM _ _ (by omega) (by omega)]; exact a3, by rw [hM _ _ (by omega) (by omega)]; exact a4, fun j hj => ?_, ⟨T, (a6.lv (Lv.of fun d k hd => hM _ _ (by omega) (by omega))).rg hr⟩, ⟨T', (a7.lv (Lv.of fun d k hd => hM _ _ (by omega) (by omega))).rg (hpr 0)⟩, fun j hj => ?_, fun j hj => ?_, fun j hj => ?_⟩
  · rw [hM _ _ (by omega) (by omega), hM _ _ (by omega) (by omega)]; exact a5 j hj
  · rw [hM _ _ (by omega) (by omega), hM _ _ (by omega) (by omega)]; exact (a8 j hj).rg (hpr j) (hpr (j + 1))
  · rw [hM _ _ (by omega) (by omega), hM _ _ (by omega) (by omega), h1 j (by omega), h2 j (by omega)]; exact a9 j hj
  · rw [hM _ _ (by omega) (by omega), h3 j hj]; exact a10 j hj
/-- the class's cells are read from M, the model's from N -/
def Inv2 (x : Nat) (L : LN) (M N : Mem) : Prop := LWf L ∧ ((M.2.2 0 = x + 3 ∧ M.2.2 1 = x + 11) ∨ (M.2.2 0 = x + 11 ∧ M.2.2 1 = x + 3)) ∧ LineC M (M.2.2 0) L ∧ EnvM (x + 95) N L ∧ N.1 (x + 95) 24 = L.1 2 ∧ N.1 (x + 95) 25 = L.1 3 ∧ N.1 (x + 95) 29 = 0 ∧ (∃ k : Nat, k ≤ 700 ∧ M.1 (x + 1) 1 = Int32.ofNat k ∧ N.1 (x + 95) 12 = Int32.ofNat k ∧ ∀ j, j < k → M.1 (x + 2) j = N.1 (x + 95 + 9) j ∧ 0 ≤ (M.1 (x + 2) j).toInt ∧ (M.1 (x + 2) j).toInt ≤ 255) ∧ M.1 (x + 1) 7 = N.1 (x + 95) 21 ∧ (∃ n nn : Nat, N.1 (x + 95) 31 = Int32.ofNat n ∧ N.1 (x + 95) 32 = Int32.ofNat nn ∧ SRn L M (x + 19) (N.1 (x + 95 + 8)) (N.1 (x + 95 + 15)) (N.1 (x + 95 + 18)) (N.1 (x + 95 + 19)) (N.1 (x + 95 + 7)) n nn) ∧ (M.1 x 4 = N.1 (x + 95) 44 ∧ (M.1 x 4 = 0 ∨ M.1 x 4 = 1) ∧ (¬ M.1 x 4 = 0 → ∃ n nn : Nat, N.1 (x + 95) 45 = Int32.ofNat n ∧ N.1 (x + 95) 46 = Int32.ofNat nn ∧ SRn L M (x + 49) (N.1 (x + 95 + 22)) (N.1 (x + 95 + 23)) (N.1 (x + 95 + 24)) (N.1 (x + 95 + 25)) (N.1 (x + 95 + 26)) n nn)) ∧ N.1 (x + 95) 9 = 1
/-- what a question leaves as it was: the class's cells but the forecast's and the rules' stacks -/
def FQ (x : Nat) (M M' : Mem) : Prop := (∀ b k, ¬ (b = x + 7 ∨ b = x + 10 ∨ b = x + 15 ∨ b = x + 18 ∨ (x + 79 ≤ b ∧ b < x + 95)) → M'.1 b k = M.1 b k) ∧ M'.2 = M.2
/-- and of the model's: its row as far as it goes, what is kept of the rules, what is tried -/
def GQ (x : Nat) (N N' : Mem) : Prop := (∀ b k, ¬ ((x + 95 + 10 ≤ b ∧ b ≤ x + 95 + 14) ∨ b = x + 95 + 16 ∨ b = x + 95 + 17 ∨ b = x + 95 + 20 ∨ b = x + 95 + 21 ∨ (b = x + 95 ∧ (k = 2 ∨ k = 36 ∨ k = 37 ∨ k = 42 ∨ k = 43 ∨ k = 30)) ∨ (b = x + 95 + 8 ∧ 665 ≤ k)) → N'.1 b k = N.1 b k) ∧ N'.2 = N.2
/-- the same while it tries: the row, GAINS and what a storm brings may be others -/
def GR (x : Nat) (N N' : Mem) : Prop := (∀ b k, ¬ ((x + 95 + 10 ≤ b ∧ b ≤ x + 95 + 14) ∨ b = x + 95 + 16 ∨ b = x + 95 + 17 ∨ b = x + 95 + 20 ∨ b = x + 95 + 21 ∨ (b = x + 95 ∧ (k = 36 ∨ k = 37 ∨ k = 42 ∨ k = 43 ∨ k = 30 ∨ k = 24 ∨ k = 25 ∨ k = 29)) ∨ b = x + 95 + 8) → N'.1 b k = N.1 b k) ∧ N'.2 = N.2
theorem FQ.rf {x : Nat} {M : Mem} : FQ x M M := ⟨fun _ _ _ => rfl, rfl⟩
theorem FQ.tr {x : Nat} {M M1 M2 : Mem} (h1 : FQ x M M1) (h2 : FQ x M1 M2) : FQ x M M2 := ⟨fun b k h => (h2.1 b k h).trans (h1.1 b k h), h2.2.trans h1.2⟩
theorem GR.rf {x : Nat} {M : Mem} : GR x M M := ⟨fun _ _ _ => rfl, rfl⟩
theorem GR.tr {x : Nat} {M M1 M2 : Mem} (h1 : GR x M M1) (h2 : GR x M1 M2) : GR x M M2 := ⟨fun b k h => (h2.1 b k h).trans (h1.1 b k h), h2.2.trans h1.2⟩
theorem VM.gr {x : Nat} {N N' : Mem} (h : VM (x + 95) N N') : GR x N N' := ⟨fun b k hb => h.1 b k (by omega) (by omega) (by omega), h.2⟩
theorem FQ.wr {x b k : Nat} {v : Int32} {M M' : Mem} (h : FQ x M M') (hb : x + 79 ≤ b ∧ b < x + 95) : FQ x M (wi M' b k v) := ⟨fun a j ha => by
  have : ¬ (a = b ∧ j = k) := fun e => ha (by omega)
  simp only [wi, if_neg this]
  exact h.1 a j ha, h.2⟩
theorem GR.wr {x b k : Nat} {v : Int32} {M M' : Mem} (h : GR x M M') (hb : b = x + 95 + 16 ∨ b = x + 95 + 17 ∨ b = x + 95 + 20 ∨ b = x + 95 + 21 ∨ b = x + 95 + 8 ∨ (b = x + 95 ∧ (k = 36 ∨ k = 37 ∨ k = 42 ∨ k = 43 ∨ k = 30 ∨ k = 24 ∨ k = 25 ∨ k = 29))) : GR x M (wi M' b k v) := ⟨fun a j ha => by
  have : ¬ (a = b ∧ j = k) := fun e => ha (by omega)
  simp only [wi, if_neg this]
  exact h.1 a j ha, h.2⟩
theorem LineC.cg {r : Nat} {M M' : Mem} {L : LN} (h : LineC M r L) (e : ∀ b k, (b = r ∨ b = r + 1 ∨ b = r + 2 ∨ b = r + 3 ∨ b = r + 5 ∨ b = r + 6) → M'.1 b k = M.1 b k) : LineC M' r L := by
  obtain ⟨h1, h2, ⟨h3, h4, h5⟩, h6, h7, h8⟩ := h
  refine ⟨fun k hk => ?_, fun k hk => ?_, ⟨?_, h4, fun j hj => ?_⟩, ?_, h7, fun j hj => ?_⟩
  · rw [e _ _ (by omega)]; exact h1 k hk
  · rw [e _ _ (by omega)]; exact h2 k hk
  · rw [e _ _ (by omega)]; exact h3
  · rw [e _ _ (by omega)]; exact h5 j hj
  · rw [e _ _ (by omega)]; exact h6
  · rw [e _ _ (by omega)]; exact h8 j hj
theorem EnvM.cg {t : Nat} {N N' : Mem} {L : LN} (h : EnvM t N L) (e : ∀ b k, (t + 3 ≤ b ∧ b ≤ t + 6) → N'.1 b k = N.1 b k) (hc : CVm t N' L.2.2.1 L.2.2.2) : EnvM t N' L := by
  obtain ⟨h1, h2, h3, h4, h5⟩ := h
  refine ⟨fun k hk => ?_, fun k hk => ?_, ⟨?_, h3.2.1, fun j hj => ?_⟩, ⟨?_, h4.2.1, fun j hj => ?_⟩, hc⟩
  · rw [e _ _ (by omega)]; exact h1 k hk
  · rw [e _ _ (by omega)]; exact h2 k hk
  · rw [e _ _ (by omega)]; exact h3.1
  · rw [e _ _ (by omega)]; exact h3.2.2 j hj
  · rw [e _ _ (by omega)]; exact h4.1
  · rw [e _ _ (by omega)]; exact h4.2.2 j hj
/-- behind a question all stands as ahead of it -/
theorem Inv2.q {x : Nat} {L : LN} {M N M' N' : Mem} (h : Inv2 x L M N) (hM : FQ x M M') (hN : GQ x N N') (hc : CVm (x + 95) N' L.2.2.1 L.2.2.2) : Inv2 x L M' N' := by
  obtain ⟨a1, a2, a3, a4, a5, a6, a7, ⟨k, b1, b2, b3, b4⟩, a9, ⟨n, nn, c1, c2, c3⟩, ⟨d1, d2, d3⟩, a12⟩ := h
  have hw : M'.2.2 0 = M.2.2 0 ∧ M'.2.2 1 = M.2.2 1 := by rw [hM.2]; exact ⟨rfl, rfl⟩
  have gM : ∀ b k, ¬ (b = x + 7 ∨ b = x + 10 ∨ b = x + 15 ∨ b = x + 18 ∨ (x + 79 ≤ b ∧ b < x + 95)) → M'.1 b k = M.1 b k := hM.1
  have gN : ∀ b k, ¬ ((x + 95 + 10 ≤ b ∧ b ≤ x + 95 + 14) ∨ b = x + 95 + 16 ∨ b = x + 95 + 17 ∨ b = x + 95 + 20 ∨ b = x + 95 + 21 ∨ (b = x + 95 ∧ (k = 2 ∨ k = 36 ∨ k = 37 ∨ k = 42 ∨ k = 43 ∨ k = 30)) ∨ (b = x + 95 + 8 ∧ 665 ≤ k)) → N'.1 b k = N.1 b k := hN.1
  refine ⟨a1, by rw [hw.1, hw.2]; exact a2, by rw [hw.1]; exact a3.cg (fun b k hb => gM b k (by omega)), a4.cg (fun b k hb => gN b k (by omega)) hc, by rw [gN _ _ (by omega)]; exact a5, by rw [gN _ _ (by omega)]; exact a6, by rw [gN _ _ (by omega)]; exact a7, ⟨k, b1, by rw [gM _ _ (by omega)]; exact b2, by rw [gN _ _ (by omega)]; exact b3, fun j hj => by rw [gM _ _ (by omega), gN _ _ (by omega)]; exact b4 j hj⟩, by rw [gM _ _ (by omega), gN _ _ (by omega)]; exact a9, ⟨n, nn, by rw [gN _ _ (by omega)]; exact c1, by rw [gN _ _ (by omega)]; exact c2, c3.cg (fun b k h1 h2 => gM b k (by omega)) (fun j hj => gN _ _ (by omega)) (fun j hj => gN _ _ (by omega)) (fun j hj => gN _ _ (by omega)) (fun j hj => gN _ _ (by omega)) (fun j hj => gN _ _ (by omega))⟩, ⟨by rw [gM _ _ (by omega), gN _ _ (by omega)]; exact d1, by rw [gM _ _ (by omega)]; exact d2, fun h4 => ?_⟩, by rw [gN _ _ (by omega)]; exact a12⟩
  rw [gM _ _ (by omega)] at h4
  obtain ⟨n, nn, e1, e2, e3⟩ := d3 h4
  exact ⟨n, nn, by rw [gN _ _ (by omega)]; exact e1, by rw [gN _ _ (by omega)]; exact e2, e3.cg (fun b k h1 h2 => gM b k (by omega)) (fun j hj => gN _ _ (by omega)) (fun j hj => gN _ _ (by omega)) (fun j hj => gN _ _ (by omega)) (fun j hj => gN _ _ (by omega)) (fun j hj => gN _ _ (by omega))⟩
theorem copy_loop {r1 r2 n : Nat} {M : Mem} (h : ¬ r1 = r2) (hn : n < 100000) : ∀ (m k fu : Nat), k + m = n → m < fu → lop2 fu (l_X11_copyTo_2 r1 n r2 n) (Int32.ofNat k) (rcp M r2 r1 k) = some ((), rcp M r2 r1 n) := by
  intro m
  induction m with
  | zero =>
    intro k fu hk hf
    obtain ⟨fu, rfl⟩ : ∃ q, fu = q + 1 := ⟨fu - 1, by omega⟩
    obtain rfl : k = n := by omega
    refine lop2_inr ?_
    unfold l_X11_copyTo_2
    rw [if_pos ((i_le (by omega) (by omega)).mpr (Nat.le_refl _))]
  | succ m ih =>
    intro k fu hk hf
    obtain ⟨fu, rfl⟩ : ∃ q, fu = q + 1 := ⟨fu - 1, by omega⟩
    have e : l_X11_copyTo_2 r1 n r2 n (Int32.ofNat k) (rcp M r2 r1 k) = some (.inl (Int32.ofNat (k + 1), rcp M r2 r1 (k + 1))) := by
      refine Wp.eq ?_
      unfold l_X11_copyTo_2
      refine Wp.ng (i64_lt (by omega) (by omega)) ?_
      refine Wp.gi (i_rng (by omega) (by omega)) ?_
      refine Wp.gi (i_rng (by omega) (by omega)) ?_
      refine Wp.nam (Wp.nam (Wp.ret ?_))
      rw [i_ad1, i_nn (by omega)]
      have : wi (rcp M r2 r1 k) r1 k ((rcp M r2 r1 k).1 r2 k) = rcp M r2 r1 (k + 1) := by
        refine Mem.ext' (fun b j => ?_) rfl
        simp only [wi, rcp]
        have h2 : ¬ (r2 = r1 ∧ k < k) := by omega
        rw [if_neg h2]
        by_cases hb : b = r1
        · by_cases hj : j = k
          · rw [if_pos ⟨hb, hj⟩, if_pos ⟨hb, by omega⟩, hj]
          · rw [if_neg (fun e => hj e.2)]
            by_cases hjk : j < k
            · rw [if_pos ⟨hb, hjk⟩, if_pos ⟨hb, by omega⟩]
            · rw [if_neg (fun e => hjk e.2), if_neg (fun e => hjk (by omega))]
        · rw [if_neg (fun e => hb e.1), if_neg (fun e => hb e.1), if_neg (fun e => hb e.1)]
      rw [this]
    rw [lop2_inl e]
    exact ih (k + 1) fu (by omega) (by omega)
theorem e_copyTo {r1 r2 n : Nat} {M : Mem} (h : ¬ r1 = r2) (hn : n < 100000) : f_X11_copyTo r1 n r2 n M = some ((), rcp M r2 r1 n) := by
  have h0 : rcp M r2 r1 0 = M := by
    refine Mem.ext' (fun b j => ?_) rfl
    simp only [rcp]
    rw [if_neg (fun e => absurd e.2 (by omega))]
  have := copy_loop (M := M) h hn n 0 FU (by omega) (by unfold FU; omega)
  rw [h0] at this
  exact this
theorem rcp_in {M : Mem} {r1 r2 n j : Nat} (h : j < n) : (rcp M r1 r2 n).1 r2 j = M.1 r1 j := if_pos ⟨rfl, h⟩
theorem rcp_out {M : Mem} {r1 r2 n j : Nat} (h : ¬ j < n) : (rcp M r1 r2 n).1 r2 j = M.1 r2 j := if_neg fun e => h e.2
theorem rcp_ne {M : Mem} {r1 r2 n b j : Nat} (h : ¬ b = r2) : (rcp M r1 r2 n).1 b j = M.1 b j := if_neg fun e => h e.1
/-- what holds while a question is tried: ahead (class) and row (model) go on together -/
def QR (x : Nat) (L : LN) (p i : Int32) (M N : Mem) (T : Int) (M1 N1 : Mem) : Prop := FQ x M M1 ∧ GR x N N1 ∧ (∀ j, j < 665 → N1.1 (x + 95 + 16) j = N.1 (x + 95 + 8) j) ∧ LineC M1 (M.2.2 0) L ∧ EnvM (x + 95) N1 L ∧ N1.1 (x + 95) 24 = p ∧ N1.1 (x + 95) 25 = i ∧ RWd L p i T (getW M1 (x + 79 + 1)) (N1.1 (x + 95 + 8)) (N1.1 (x + 95) 29) (N1.1 (x + 95) 30)
def lineAt (x : Nat) (M : Mem) : Prop := M.2.2 0 = x + 3 ∨ M.2.2 0 = x + 11
theorem Inv2.at {x : Nat} {L : LN} {M N : Mem} (h : Inv2 x L M N) : lineAt x M := by
  rcases h.2.1 with g | g
  · exact Or.inl g.1
  · exact Or.inr g.1
theorem lineAt.ow {x w : Nat} {M : Mem} (h : lineAt x M) (hw : x + 19 ≤ w) : Ow w (M.2.2 0) 8 := by
  unfold lineAt at h
  unfold Ow
  omega
theorem VC.fq {x : Nat} {M M1 M2 : Mem} (h : VC (M.2.2 0) M1 M2) (ha : lineAt x M) : FQ x M1 M2 := ⟨fun b k hb => h.1 b k (by unfold lineAt at ha; omega) (by unfold lineAt at ha; omega), h.2⟩
theorem setW_fq {x : Nat} {M M1 : Mem} {c : CW} (h : FQ x M M1) : FQ x M (setW M1 (x + 79 + 1) c) := ⟨fun b k hb => by
  rw [rd_Wo (by omega)]
  exact h.1 b k hb, h.2⟩
theorem getset {M : Mem} {w : Nat} {c : CW} : Lv c (getW (setW M w c) w) := by
  have c1 : (lvs.all fun q => decide (q.1 < 12)) = true := by decide
  have c2 : (lva.all fun q => decide (q.1 < 12)) = true := by decide
  exact ⟨fun q hq => rd_W (by simpa using List.all_eq_true.mp c1 q hq), fun q hq k _ => rd_W (by simpa using List.all_eq_true.mp c2 q hq)⟩
theorem LineC.F {x : Nat} {M M1 M2 : Mem} {L : LN} (h : LineC M1 (M.2.2 0) L) (hf : FQ x M1 M2) (ha : lineAt x M) : LineC M2 (M.2.2 0) L := h.cg (fun b k hb => hf.1 b k (by unfold lineAt at ha; omega))
/-- a question begins -/
theorem QR.begin {x : Nat} {L : LN} {M N N0 : Mem} (h : Inv2 x L M N) (h0 : FQ x M M) {M0 : Mem} (hM0 : FQ x M M0) (hN0 : GR x N N0) (hE : EnvM (x + 95) N0 L) (hrow : ∀ j, j < 665 → N0.1 (x + 95 + 8) j = N.1 (x + 95 + 8) j) (h24 : N0.1 (x + 95) 24 = L.1 2) (h25 : N0.1 (x + 95) 25 = L.1 3) (h29 : N0.1 (x + 95) 29 = 0) : ∃ T, 0 ≤ T ∧ T ≤ 20000 ∧ (∃ M1 N1, f_X9_copyFrom (x + 79 + 1) (x + 19 + 1) M0 = some ((), M1) ∧ f_X11_rememberNow (x + 95) N0 = some ((), N1) ∧ QR x L (L.1 2) (L.1 3) M N T M1 N1 ∧ N1.1 (x + 95) 29 = 0 ∧ (∀ b k, ¬ b = x + 95 + 16 → N1.1 b k = N0.1 b k) ∧ (∀ b k, ¬ (x + 80 ≤ b ∧ b < x + 92) → M1.1 b k = M0.1 b k)) := by
  have ha := h.at
  obtain ⟨a1, a2, a3, a4, a5, a6, a7, _, _, ⟨n, nn, c1, c2, c3⟩, _, _⟩ := h
  obtain ⟨_, _, _, _, _, ⟨T, hT⟩, _⟩ := c3
  refine ⟨T, hT.1, hT.2.1, ?_⟩
  have hcp := e_cp0 (M := M0) (w := x + 79 + 1) (w0 := x + 19 + 1) (c := getW M0 (x + 79 + 1)) (by unfold Ow; omega)
  rw [set_get] at hcp
  have hrem : f_X11_rememberNow (x + 95) N0 = some ((), rcp N0 (x + 95 + 8) (x + 95 + 16) 665) := by
    unfold f_X11_rememberNow
    rw [bd_eq (e_copyTo (by omega) (by decide))]
  have hfr : FQ x M (setW M0 (x + 79 + 1) (cp0 (getW M0 (x + 19 + 1)) (getW M0 (x + 79 + 1)))) := setW_fq hM0
  refine ⟨_, _, hcp, hrem, ⟨hfr, ⟨fun b k hb => by rw [rcp_ne (by omega)]; exact hN0.1 b k hb, hN0.2⟩, fun j hj => by rw [rcp_in hj]; exact hrow j hj, a3.F hfr ha, hE.cg (fun b k hb => rcp_ne (by omega)) (hE.2.2.2.2.cg (funext fun _ => rcp_ne (by omega)) (funext fun _ => rcp_ne (by omega)) (funext fun _ => rcp_ne (by omega))), by rw [rcp_ne (by omega)]; exact h24, by rw [rcp_ne (by omega)]; exact h25, ?_⟩, by rw [rcp_ne (by omega)]; exact h29, fun b k hb => rcp_ne hb, fun b k hb => rd_Wo (by omega)⟩
  rw [rcp_ne (by omega), rcp_ne (by omega), h29]
  refine ((RWd.sl _ (RWd.lv (hT.2.2) ?_))).rg (fun j hj => by rw [rcp_ne (by omega)]; exact hrow j hj)
  refine Lv.tr ?_ getset
  refine Lv.tr ?_ cp0_lv
  exact Lv.of (fun d k hd => hM0.1 _ _ (by omega))
/-- a STEP is tried -/
theorem QR.step {x : Nat} {L : LN} {p i : Int32} {M N M1 N1 : Mem} {T : Int} (h : QR x L p i M N T M1 N1) (hW : LWf L) (ha : lineAt x M) (hT : 0 ≤ T ∧ T ≤ 60000) : ∃ M2 N2, f_X9_step (x + 79 + 1) (M.2.2 0) M1 = some ((), M2) ∧ f_X11_aStep (x + 95) N1 = some ((), N2) ∧ QR x L p i M N (T + 1) M2 N2 ∧ (N1.1 (x + 95) 29 = 0 → N2.1 (x + 95) 29 = 0) ∧ (∀ b k, ¬ (b = x + 7 ∨ b = x + 10 ∨ b = x + 15 ∨ b = x + 18 ∨ (x + 80 ≤ b ∧ b < x + 92)) → M2.1 b k = M1.1 b k) ∧ VM (x + 95) N1 N2 ∧ ((N1.1 (x + 95 + 8) 7).toInt ≤ (N2.1 (x + 95 + 8) 7).toInt ∧ (N1.1 (x + 95 + 8) 12).toInt ≤ (N2.1 (x + 95 + 8) 12).toInt ∧ (N1.1 (x + 95 + 8) 4).toInt + (N1.1 (x + 95 + 8) 5).toInt ≤ (N2.1 (x + 95 + 8) 4).toInt + (N2.1 (x + 95 + 8) 5).toInt) := by
  obtain ⟨q1, q2, q3, q4, q5, q6, q7, q8⟩ := h
  obtain ⟨M', N', g1, g2, g3, g4, g5, g6, g7, g8⟩ := sim_step (w := x + 79 + 1) (rr := M.2.2 0) hW hT (ha.ow (by omega)) q4 q5 q6 q7 q8
  rw [set_get] at g1
  have hf : FQ x M (setW M' (x + 79 + 1) (stepC L M1 (M.2.2 0) (getW M1 (x + 79 + 1)))) := setW_fq (q1.tr (g2.fq ha))
  refine ⟨_, N', g1, g3, ⟨hf, q2.tr g4.gr, fun j hj => by rw [g4.1 _ _ (by omega) (by omega) (by omega)]; exact q3 j hj, (q4.vc g2).cg (fun b k hb => rd_Wo (by unfold lineAt at ha; omega)), g5, by rw [g4.1 _ _ (by omega) (by omega) (by omega)]; exact q6, by rw [g4.1 _ _ (by omega) (by omega) (by omega)]; exact q7, g6.lv getset⟩, g7, fun b k hb => ?_, g4, g8⟩
  rw [rd_Wo (by omega)]
  exact g2.1 b k (by unfold lineAt at ha; omega) (by unfold lineAt at ha; omega)
/-- many are tried -/
theorem QR.go {x k : Nat} {L : LN} {p i : Int32} {M N M1 N1 : Mem} {T : Int} (h : QR x L p i M N T M1 N1) (hW : LWf L) (ha : lineAt x M) (hk : k < 100000) (hT : 0 ≤ T ∧ T + k ≤ 60000) : ∃ M2 N2, f_X9_apply (x + 79 + 1) (M.2.2 0) 0 (Int32.ofNat k) M1 = some ((), M2) ∧ f_X11_goOn (x + 95) (Int32.ofNat k) N1 = some ((), N2) ∧ QR x L p i M N (T + k) M2 N2 ∧ (N1.1 (x + 95) 29 = 0 → N2.1 (x + 95) 29 = 0) ∧ (∀ b k, ¬ (b = x + 7 ∨ b = x + 10 ∨ b = x + 15 ∨ b = x + 18 ∨ (x + 80 ≤ b ∧ b < x + 92)) → M2.1 b k = M1.1 b k) ∧ VM (x + 95) N1 N2 ∧ (N1.1 (x + 95 + 8) 7).toInt ≤ (N2.1 (x + 95 + 8) 7).toInt := by
  obtain ⟨q1, q2, q3, q4, q5, q6, q7, q8⟩ := h
  obtain ⟨M', N', g1, g2, g3, g4, g5, g6, g7, g8⟩ := sim_go (w := x + 79 + 1) (rr := M.2.2 0) hW (ha.ow (by omega)) hk hT.1 hT.2 q4 q5 q6 q7 q8
  rw [set_get] at g1
  have hf : FQ x M (setW M' (x + 79 + 1) (itL L k (getW M1 (x + 79 + 1)))) := setW_fq (q1.tr (g2.fq ha))
  refine ⟨_, N', g1, g3, ⟨hf, q2.tr g4.gr, fun j hj => by rw [g4.1 _ _ (by omega) (by omega) (by omega)]; exact q3 j hj, (q4.vc g2).cg (fun b k hb => rd_Wo (by unfold lineAt at ha; omega)), g5, by rw [g4.1 _ _ (by omega) (by omega) (by omega)]; exact q6, by rw [g4.1 _ _ (by omega) (by omega) (by omega)]; exact q7, g6.lv getset⟩, g7, fun b k hb => ?_, g4, g8⟩
  rw [rd_Wo (by omega)]
  exact g2.1 b k (by unfold lineAt at ha; omega) (by unfold lineAt at ha; omega)
/-- the row is put back -/
theorem QR.back {x : Nat} {L : LN} {p i v : Int32} {M N M1 N1 : Mem} {T : Int} (h : QR x L p i M N T M1 N1) : f_X11_back (x + 95) v N1 = some (v, rcp N1 (x + 95 + 16) (x + 95 + 8) 665) ∧ GR x N (rcp N1 (x + 95 + 16) (x + 95 + 8) 665) ∧ (∀ j, j < 665 → (rcp N1 (x + 95 + 16) (x + 95 + 8) 665).1 (x + 95 + 8) j = N.1 (x + 95 + 8) j) ∧ EnvM (x + 95) (rcp N1 (x + 95 + 16) (x + 95 + 8) 665) L := by
  obtain ⟨q1, q2, q3, q4, q5, q6, q7, q8⟩ := h
  refine ⟨?_, ⟨fun b k hb => by rw [rcp_ne (by omega)]; exact q2.1 b k hb, q2.2⟩, fun j hj => by rw [rcp_in hj]; exact q3 j hj, q5.cg (fun b k hb => rcp_ne (by omega)) (q5.2.2.2.2.cg (funext fun _ => rcp_ne (by omega)) (funext fun _ => rcp_ne (by omega)) (funext fun _ => rcp_ne (by omega)))⟩
  unfold f_X11_back
  rw [bd_eq (e_copyTo (by omega) (by decide))]
/-- from what is tried to what stands -/
theorem GR.gq {x : Nat} {N N' : Mem} (h : GR x N N') (hr : ∀ j, j < 665 → N'.1 (x + 95 + 8) j = N.1 (x + 95 + 8) j) (h24 : N'.1 (x + 95) 24 = N.1 (x + 95) 24) (h25 : N'.1 (x + 95) 25 = N.1 (x + 95) 25) (h29 : N'.1 (x + 95) 29 = N.1 (x + 95) 29) : GQ x N N' := ⟨fun b k hb => by
  by_cases e8 : b = x + 95 + 8
  · subst e8
    exact hr k (by omega)
  · by_cases e : b = x + 95 ∧ (k = 24 ∨ k = 25 ∨ k = 29)
    · obtain ⟨e1, e2 | e2 | e2⟩ := e <;> subst e1 e2
      · exact h24
      · exact h25
      · exact h29
    · exact h.1 b k (by omega), h.2⟩
theorem QR.core {x : Nat} {L : LN} {p i : Int32} {M N M1 N1 : Mem} {T : Int} (h : QR x L p i M N T M1 N1) : Core (L.1 0) p i (1100 * T) (1200 * T) (300 * T) T (getW M1 (x + 79 + 1)) (N1.1 (x + 95 + 8)) := by
  obtain ⟨m, hm, _⟩ := h.2.2.2.2.2.2.2
  exact hm.1
theorem QR.level {x : Nat} {L : LN} {p i : Int32} {M N M1 N1 : Mem} {T : Int} (h : QR x L p i M N T M1 N1) (hW : LWf L) (ha : lineAt x M) (hT : 0 ≤ T ∧ T ≤ 60000) : f_X5_level (x + 79 + 1 + 5) (M1.1 (M.2.2 0) 0) M1 = some (levR (L.1 0) (N1.1 (x + 95 + 8)), M1) ∧ f_X11_levelNow (x + 95) N1 = some (levR (L.1 0) (N1.1 (x + 95 + 8)), N1) := by
  have hc := h.core
  obtain ⟨q1, q2, q3, q4, q5, q6, q7, q8⟩ := h
  have hz := hW.1
  have e := e_nlevel (M := M1) (w := x + 79 + 1) (c := getW M1 (x + 79 + 1)) (z := L.1 0)
  rw [set_get, level_ok hz (by omega) hc] at e
  have m := m_level (N := N1) (t := x + 95) (r := N1.1 (x + 95 + 8)) (z := L.1 0) (q5.1 0 (by decide)) (fun e => by rw [e] at hz; exact absurd hz (by decide)) (fun h8 => sf_ok hz hc h8)
  rw [rset_get] at m
  exact ⟨by rw [q4.1 0 (by decide)]; exact e, m⟩
