/-! Targets and gains tried. -/
/-- what can be turned -/
theorem Rl.set {z p i : Int32} {A B C D : Int} {m d k j : Nat} {v : Int32} {c : CW} {r : Nat → Int32} {s sl : Int32} (h : Rl z p i A B C D m c r s sl) (hj : (d = 1 ∧ k = 6 ∧ j = 25) ∨ (d = 1 ∧ k = 7 ∧ j = 26) ∨ (d = 1 ∧ k = 0 ∧ j = 27) ∨ (d = 5 ∧ k = 2 ∧ j = 28) ∨ (d = 5 ∧ k = 1 ∧ j = 29)) (hv : j = 27 → -99 ≤ v.toInt ∧ v.toInt ≤ 99) : Rl z p i A B C D m (uc c d k v) (rup r j v) s sl := by
  obtain ⟨⟨k1, k2, k3, ⟨f1, f2, f3, f4, f5, f6, f7⟩, k5, k6, k7, k8, k9, k10, k11, k12, k13⟩, l2, l3, l4, l5, l6, l7⟩ := h
  have fr : ∀ a, ¬ a = j → rup r j v a = r a := fun a ha => rup_o ha
  have fc : ∀ a b, ¬ (a = d ∧ b = k) → uc c d k v a b = c a b := fun a b hd => uc_o hd
  have hS : Sc (uc c d k v) (rup r j v) := by
    rcases hj with ⟨h1, h2, h3⟩ | ⟨h1, h2, h3⟩ | ⟨h1, h2, h3⟩ | ⟨h1, h2, h3⟩ | ⟨h1, h2, h3⟩ <;> subst h1 h2 h3 <;> exact k1.up rfl (by decide)
  refine ⟨⟨hS, by rw [fc _ _ (by omega)]; exact k2, by rw [fc _ _ (by omega)]; exact k3, ?_, k5.cg (fun a ha => fr a ?_), k6.cg (fun a ha => fr a (by omega)), ?_, k8.cg (fun a ha => fr a (by omega)), k9.cg (fun a b hd => fc a b (by omega)) (fun a _ _ => fr a (by omega)), k10.cg (fun a => fc _ _ (by omega)) (fun a ha => fr a (by omega)), k11.cg (fun a => fc _ _ (by omega)) (fun a ha => fr a (by omega)), k12.cg (fc _ _ (by omega)) (fr _ (by omega)) (fr _ (by omega)), k13.cg (fc _ _ (by omega)) (fun a ha => fr a ?_)⟩, by rw [fr 31 (by omega)]; exact l2, l3, l4.cg (fun a b hd _ => fc a b (by omega)) (fun a _ _ => fr a (by omega)), ?_, ?_, ?_⟩
  · unfold gF
    rw [fr 1 (by omega), fr 2 (by omega), fr 22 (by omega)]
    by_cases e : j = 27
    · subst e
      rw [rup_s]
      have := hv rfl
      omega
    · rw [fr 27 (by omega)]
      omega
  · simp at ha; omega
  · rw [fr 2 (by omega)]
    exact k7.cg (Int.le_refl _) (fun a ha => fr a (by omega))
  · simp at ha; omega
  · rw [fr 2 (by omega)]
    exact l5.cg (Int.le_refl _) (fun a ha => fr _ (by omega))
  · rw [fr 2 (by omega)]
    exact l6.cg (Int.le_refl _) (fr _ (by omega)) (fr _ (by omega))
  · rw [fc _ _ (by omega), fc _ _ (by omega)]
    exact l7
theorem RWd.set {L : LN} {p i : Int32} {T : Int} {d k j : Nat} {v : Int32} {c : CW} {r : Nat → Int32} {s sl : Int32} (h : RWd L p i T c r s sl) (hj : (d = 1 ∧ k = 6 ∧ j = 25) ∨ (d = 1 ∧ k = 7 ∧ j = 26) ∨ (d = 1 ∧ k = 0 ∧ j = 27) ∨ (d = 5 ∧ k = 2 ∧ j = 28) ∨ (d = 5 ∧ k = 1 ∧ j = 29)) (hv : j = 27 → -99 ≤ v.toInt ∧ v.toInt ≤ 99) : RWd L p i T (uc c d k v) (rup r j v) s sl := by
  obtain ⟨m, h1, h2, h3, h4⟩ := h
  exact ⟨m, h1.set hj hv, by rw [rup_o (by omega)]; exact h2, by rw [rup_o (by omega)]; exact h3, by rw [rup_o (by omega), rup_o (by omega)]; exact h4⟩
theorem getW_wi {M : Mem} {w d k : Nat} {v : Int32} : getW (wi M (w + d) k v) w = uc (getW M w) d k v := by
  funext a b
  simp only [getW, wi, uc]
  by_cases h : a = d ∧ b = k
  · rw [if_pos (by omega), if_pos h]
  · rw [if_neg (by omega), if_neg h]
/-- the class's world and the model's row are turned while a question is tried -/
theorem QR.set {x : Nat} {L : LN} {p i v : Int32} {d k j : Nat} {M N M1 N1 : Mem} {T : Int} (h : QR x L p i M N T M1 N1) (ha : lineAt x M) (hd : d < 12) (hj : (d = 1 ∧ k = 6 ∧ j = 25) ∨ (d = 1 ∧ k = 7 ∧ j = 26) ∨ (d = 1 ∧ k = 0 ∧ j = 27) ∨ (d = 5 ∧ k = 2 ∧ j = 28) ∨ (d = 5 ∧ k = 1 ∧ j = 29)) (hv : j = 27 → -99 ≤ v.toInt ∧ v.toInt ≤ 99) : QR x L p i M N T (wi M1 (x + 79 + 1 + d) k v) (wi N1 (x + 95 + 8) j v) := by
  obtain ⟨q1, q2, q3, q4, q5, q6, q7, q8⟩ := h
  refine ⟨q1.wr (by omega), q2.wr (by omega), fun a haa => by rw [wi_rwo (by omega)]; exact q3 a haa, q4.cg (fun b a hb => by rw [wi_rwo (by unfold lineAt at ha; omega)]), q5.cg (fun b a hb => by rw [wi_rwo (by omega)]) (q5.2.2.2.2.cg (wi_rwo (by omega)) (wi_rwo (by omega)) (wi_rwo (by omega))), by rw [wi_rwo (by omega)]; exact q6, by rw [wi_rwo (by omega)]; exact q7, ?_⟩
  rw [getW_wi, wi_rr, wi_rwo (by omega)]
  exact q8.set hj hv
/-- it begins again from what stands -/
theorem QR.again {x : Nat} {L : LN} {M N M1 N1 : Mem} (h : Inv2 x L M N) (q1 : FQ x M M1) (q2 : GR x N N1) (q3 : ∀ j, j < 665 → N1.1 (x + 95 + 16) j = N.1 (x + 95 + 8) j) (q5 : EnvM (x + 95) N1 L) (hrow : ∀ j, j < 665 → N1.1 (x + 95 + 8) j = N.1 (x + 95 + 8) j) (h29 : N1.1 (x + 95) 29 = 0) {T : Int} (hT : W0 L T (getW M (x + 19 + 1)) (N.1 (x + 95 + 8))) : ∃ M2, f_X9_copyFrom (x + 79 + 1) (x + 19 + 1) M1 = some ((), M2) ∧ (∀ p i, N1.1 (x + 95) 24 = p → N1.1 (x + 95) 25 = i → QR x L p i M N T (wi (wi M2 (x + 79 + 1 + 5) 3 p) (x + 79 + 1 + 5) 4 i) N1) ∧ (N1.1 (x + 95) 24 = L.1 2 → N1.1 (x + 95) 25 = L.1 3 → QR x L (L.1 2) (L.1 3) M N T M2 N1) ∧ (∀ b k, ¬ (x + 80 ≤ b ∧ b < x + 92) → M2.1 b k = M1.1 b k) := by
  have ha := h.at
  have hcp := e_cp0 (M := M1) (w := x + 79 + 1) (w0 := x + 19 + 1) (c := getW M1 (x + 79 + 1)) (by unfold Ow; omega)
  rw [set_get] at hcp
  have hfr : FQ x M (setW M1 (x + 79 + 1) (cp0 (getW M1 (x + 19 + 1)) (getW M1 (x + 79 + 1)))) := setW_fq q1
  have hL0 : LineC (setW M1 (x + 79 + 1) (cp0 (getW M1 (x + 19 + 1)) (getW M1 (x + 79 + 1)))) (M.2.2 0) L := h.2.2.1.F hfr ha
  have hR : RWd L (L.1 2) (L.1 3) T (getW (setW M1 (x + 79 + 1) (cp0 (getW M1 (x + 19 + 1)) (getW M1 (x + 79 + 1)))) (x + 79 + 1)) (N1.1 (x + 95 + 8)) (N1.1 (x + 95) 29) (N1.1 (x + 95) 30) := by
    rw [h29]
    refine ((RWd.sl _ (RWd.lv (hT.2.2) ?_))).rg (fun j hj => hrow j hj)
    refine Lv.tr ?_ getset
    refine Lv.tr ?_ cp0_lv
    exact Lv.of (fun d k hd => q1.1 _ _ (by omega))
  refine ⟨_, hcp, fun p i h24 h25 => ⟨(hfr.wr (by omega)).wr (by omega), q2, q3, hL0.cg (fun b k hb => by rw [wi_rwo (by unfold lineAt at ha; omega), wi_rwo (by unfold lineAt at ha; omega)]), q5, h24, h25, ?_⟩, fun h24 h25 => ⟨hfr, q2, q3, hL0, q5, h24, h25, hR⟩, fun b k hb => rd_Wo (by omega)⟩
  rw [getW_wi, getW_wi]
  obtain ⟨m, ⟨⟨k1, k2, k3, k4, k5, k6, k7, k8, k9, k10, k11, k12, k13⟩, l2, l3, l4, l5, l6, l7⟩, h0⟩ := hR
  have fc : ∀ (c : CW) (a b : Nat), ¬ (a = 5 ∧ (b = 3 ∨ b = 4)) → uc (uc c 5 3 p) 5 4 i a b = c a b := fun c a b hd => by rw [uc_o (by omega), uc_o (by omega)]
  exact ⟨m, ⟨⟨(k1.uC (by decide)).uC (by decide), by rw [uc_o (by omega), uc_s], by rw [uc_s], k4, k5, k6, k7, k8, k9.cg (fun a b hd => fc _ a b (by omega)) (fun _ _ _ => rfl), k10.cg (fun a => fc _ _ _ (by omega)) (fun _ _ => rfl), k11.cg (fun a => fc _ _ _ (by omega)) (fun _ _ => rfl), k12.cg (fc _ _ _ (by omega)) rfl rfl, k13.cg (fc _ _ _ (by omega)) (fun _ _ => rfl)⟩, l2, l3, l4.cg (fun a b hd _ => fc _ a b (by omega)) (fun _ _ _ => rfl), l5, l6, by rw [fc _ _ _ (by omega), fc _ _ _ (by omega)]; exact l7⟩, h0⟩
theorem Inv2.w0 {x : Nat} {L : LN} {M N : Mem} (h : Inv2 x L M N) : ∃ T, W0 L T (getW M (x + 19 + 1)) (N.1 (x + 95 + 8)) := by
  obtain ⟨_, _, _, _, _, _, _, _, _, ⟨n, nn, c1, c2, c3⟩, _, _⟩ := h
  exact c3.2.2.2.2.2.1
/-- the better one is kept, alike -/
def BR (x : Nat) (M1 N1 : Mem) : Prop := M1.1 (x + 79) 1 = N1.1 (x + 95) 36 ∧ (M1.1 (x + 79) 1 = -1 ∨ M1.1 (x + 79) 2 = N1.1 (x + 95) 37)
theorem e_prefer {x : Nat} {M1 : Mem} {a b : Int32} : f_X2_prefer (x + 79) a b M1 = some ((), if M1.1 (x + 79) 1 = -1 then wi (wi M1 (x + 79) 1 a) (x + 79) 2 b else if M1.1 (x + 79) 2 ≤ b then M1 else wi (wi M1 (x + 79) 1 a) (x + 79) 2 b) := by
  refine Wp.eq ?_
  unfold f_X2_prefer
  refine Wp.j1 (Wp.j0 (Wp.br (fun g => ?_) (fun g => Wp.br (fun g2 => ?_) (fun g2 => ?_))))
  · refine Wp.nam (Wp.nam (Wp.ret ?_))
    rw [if_pos g]
  · refine Wp.ret ?_
    rw [if_neg g, if_pos g2]
  · refine Wp.nam (Wp.nam (Wp.ret ?_))
    rw [if_neg g, if_neg g2]
theorem e_tryBest {t : Nat} {N1 : Mem} {a b : Int32} (hb : ¬ b = -1) : f_X11_tryBest t a b N1 = some ((), if N1.1 t 36 = -1 then wi (wi N1 t 36 a) t 37 b else if b < N1.1 t 37 then wi (wi N1 t 36 a) t 37 b else N1) := by
  refine Wp.eq ?_
  unfold f_X11_tryBest
  refine Wp.j0 (Wp.ng hb (Wp.j0 (Wp.br (fun g => ?_) (fun g => Wp.br (fun g2 => ?_) (fun g2 => ?_)))))
  · refine Wp.nam (Wp.nam (Wp.ret ?_))
    rw [if_pos g]
  · refine Wp.nam (Wp.nam (Wp.ret ?_))
    rw [if_neg g, if_pos g2]
  · refine Wp.ret ?_
    rw [if_neg g, if_neg g2]
/-- the two keep alike, and nothing else changes -/
theorem best_ok {x : Nat} {M1 N1 : Mem} {a b : Int32} (h : BR x M1 N1) (hb : ¬ b = -1) (ha : ¬ a = -1) : ∃ M2 N2, f_X2_prefer (x + 79) a b M1 = some ((), M2) ∧ f_X11_tryBest (x + 95) a b N1 = some ((), N2) ∧ BR x M2 N2 ∧ ¬ M2.1 (x + 79) 1 = -1 ∧ (∀ c k, ¬ (c = x + 79 ∧ (k = 1 ∨ k = 2)) → M2.1 c k = M1.1 c k) ∧ M2.2 = M1.2 ∧ (∀ c k, ¬ (c = x + 95 ∧ (k = 36 ∨ k = 37)) → N2.1 c k = N1.1 c k) ∧ N2.2 = N1.2 := by
  obtain ⟨h1, h2⟩ := h
  have hm : ∀ c k, ¬ (c = x + 79 ∧ (k = 1 ∨ k = 2)) → (wi (wi M1 (x + 79) 1 a) (x + 79) 2 b).1 c k = M1.1 c k := fun c k hc => by
    simp only [wi]
    rw [if_neg (by omega), if_neg (by omega)]
  have hn : ∀ c k, ¬ (c = x + 95 ∧ (k = 36 ∨ k = 37)) → (wi (wi N1 (x + 95) 36 a) (x + 95) 37 b).1 c k = N1.1 c k := fun c k hc => by
    simp only [wi]
    rw [if_neg (by omega), if_neg (by omega)]
  have hbr : BR x (wi (wi M1 (x + 79) 1 a) (x + 79) 2 b) (wi (wi N1 (x + 95) 36 a) (x + 95) 37 b) := ⟨by rw [wi_sl (by decide), wi_hit, wi_sl (by decide), wi_hit], Or.inr (by rw [wi_hit, wi_hit])⟩
  have hne : ¬ (wi (wi M1 (x + 79) 1 a) (x + 79) 2 b).1 (x + 79) 1 = -1 := by rw [wi_sl (by decide), wi_hit]; exact ha
  by_cases g : M1.1 (x + 79) 1 = -1
  · exact ⟨_, _, by rw [e_prefer, if_pos g], by rw [e_tryBest hb, if_pos (by rw [← h1]; exact g)], hbr, hne, hm, rfl, hn, rfl⟩
  · have g2 := h2.resolve_left g
    by_cases g3 : M1.1 (x + 79) 2 ≤ b
    · exact ⟨_, _, by rw [e_prefer, if_neg g, if_pos g3], by rw [e_tryBest hb, if_neg (by rw [← h1]; exact g), if_neg (nlt_le.mpr (by rw [← g2]; exact g3))], ⟨h1, h2⟩, g, fun _ _ _ => rfl, rfl, fun _ _ _ => rfl, rfl⟩
    · exact ⟨_, _, by rw [e_prefer, if_neg g, if_neg g3], by rw [e_tryBest hb, if_neg (by rw [← h1]; exact g), if_pos (by rw [← g2]; exact nle_lt.mp g3)], hbr, hne, hm, rfl, hn, rfl⟩
theorem sub_ne {a b : Int32} (ha : 0 ≤ a.toInt) (hb : 0 ≤ b.toInt) (h : b.toInt ≤ a.toInt) : ¬ a - b = -1 := fun e => by
  have e2 := congrArg Int32.toInt e
  have ra := ti_rng a
  rw [ti_sub (by omega) (by omega)] at e2
  have e3 : (-1 : Int32).toInt = -1 := rfl
  rw [e3] at e2
  omega
theorem ofn_ne {k : Nat} (hk : k < 100000) : ¬ Int32.ofNat k = -1 := fun e => by
  have e2 := congrArg Int32.toInt e
  rw [Int32.toInt_ofNat_of_lt (by omega)] at e2
  have e3 : (-1 : Int32).toInt = -1 := rfl
  rw [e3] at e2
  omega
theorem i64' {k : Nat} (hk : k ≤ 64) : ¬ (64 : Int32) < Int32.ofNat k := fun g => by
  have g2 : Int32.ofNat 64 < Int32.ofNat k := g
  have := (i_lt (by omega) (by omega)).mp g2
  omega
theorem aim_loop {x : Nat} {L : LN} {M N : Mem} {T : Int} {n what : Int32} (hI : Inv2 x L M N) (hT : W0 L T (getW M (x + 19 + 1)) (N.1 (x + 95 + 8))) (hn : 1 ≤ n.toInt ∧ n.toInt ≤ 400) : ∀ (m k fc fm : Nat) (M1 N1 : Mem), k + m = 65 → m < fc → m < fm → FQ x M M1 → GQ x N N1 → EnvM (x + 95) N1 L → (∀ j, j < 665 → N1.1 (x + 95 + 16) j = N.1 (x + 95 + 8) j) → N1.1 (x + 95) 2 = N.1 (x + 95) 2 → BR x M1 N1 → (1 < k → ¬ M1.1 (x + 79) 1 = -1) → 1 ≤ k → ∃ M2 N2, lop2 fc (l_X2_findTarget_13 (x + 79) (x + 19 + 1) (M.2.2 0) n) (Int32.ofNat k) M1 = some ((), M2) ∧ lop2 fm (l_X11_toAim_49 (x + 95) n what) (Int32.ofNat k) N1 = some (if what = 0 then N2.1 (x + 95) 36 else N2.1 (x + 95) 37, N2) ∧ Fin x L M N M2 N2 ∧ M2.1 (x + 79) 1 = N2.1 (x + 95) 36 ∧ M2.1 (x + 79) 2 = N2.1 (x + 95) 37 := by
  have ha := hI.at
  intro m
  induction m with
  | zero =>
    intro k fc fm M1 N1 hk hc hm qf qg qe q16 qc qb qk q1
    obtain ⟨fc, rfl⟩ : ∃ q, fc = q + 1 := ⟨fc - 1, by omega⟩
    obtain ⟨fm, rfl⟩ : ∃ q, fm = q + 1 := ⟨fm - 1, by omega⟩
    obtain rfl : k = 65 := by omega
    refine ⟨M1, N1, lop2_inr (Wp.eq ?_), lop2_inr (Wp.eq ?_), ⟨hI.q qf qg qe.2.2.2.2, qf, qg, qc⟩, qb.1, qb.2.resolve_left (qk (by decide))⟩
    · unfold l_X2_findTarget_13
      exact Wp.ps (by decide) (Wp.ret rfl)
    · unfold l_X11_toAim_49
      refine Wp.ps (by decide) (Wp.j1 (Wp.br (fun g => Wp.ret ?_) (fun g => Wp.ret ?_)))
      · rw [if_pos g]
      · rw [if_neg g]
  | succ m ih =>
    intro k fc fm M1 N1 hk hc hm qf qg qe q16 qc qb qk q1
    obtain ⟨fc, rfl⟩ : ∃ q, fc = q + 1 := ⟨fc - 1, by omega⟩
    obtain ⟨fm, rfl⟩ : ∃ q, fm = q + 1 := ⟨fm - 1, by omega⟩
    have hgr : GR x N N1 := ⟨fun b k hb => by
      by_cases e : b = x + 95 ∧ k = 2
      · obtain ⟨e1, e2⟩ := e
        subst e1 e2
        exact qc
      · exact qg.1 b k (by omega), qg.2⟩
    have hrow : ∀ j, j < 665 → N1.1 (x + 95 + 8) j = N.1 (x + 95 + 8) j := fun j hj => qg.1 _ _ (by omega)
    have h24 : N1.1 (x + 95) 24 = L.1 2 := by rw [qg.1 _ _ (by omega)]; exact hI.2.2.2.2.1
    have h25 : N1.1 (x + 95) 25 = L.1 3 := by rw [qg.1 _ _ (by omega)]; exact hI.2.2.2.2.2.1
    have h29 : N1.1 (x + 95) 29 = 0 := by rw [qg.1 _ _ (by omega)]; exact hI.2.2.2.2.2.2.1
    obtain ⟨M2, e1, _, r2, fM2⟩ := QR.again hI qf hgr q16 qe hrow h29 hT
    have Q2 := (r2 h24 h25).set (d := 5) (k := 1) (j := 29) (v := Int32.ofNat k) ha (by decide) (by omega) (fun e => by omega)
    have hnn : n = Int32.ofNat n.toInt.toNat := nat_of (by omega)
    have hT0 := hT.1
    have hT1 := hT.2.1
    obtain ⟨M3, N3, g1, g2, Q3, s3, fM3, vm3, m7⟩ := Q2.go hI.1 ha (k := n.toInt.toNat) (by omega) ⟨by omega, by omega⟩
    rw [← hnn] at g1 g2
    rw [wi_rwo (show ¬ x + 95 = x + 95 + 8 by omega)] at s3
    have s30 := s3 h29
    have hfin := Q3.fin hI s30 Q3.1
    obtain ⟨f1, f2, f3, f4⟩ := hfin
    have e7 : M3.1 (x + 79 + 1 + 5 + 4) 1 = N3.1 (x + 95 + 8) 7 := Q3.core.1.g7
    have e7b : M3.1 (x + 19 + 1 + 5 + 4) 1 = N.1 (x + 95 + 8) 7 := by
      rw [Q3.1.1 _ _ (by omega)]
      obtain ⟨mm, hmm, _⟩ := hT.2.2
      exact hmm.1.1.g7
    have e167 : N3.1 (x + 95 + 16) 7 = N.1 (x + 95 + 8) 7 := Q3.2.2.1 7 (by decide)
    have hne : ¬ N3.1 (x + 95 + 8) 7 - N.1 (x + 95 + 8) 7 = -1 := by
      rw [wi_sl (by decide), hrow 7 (by decide)] at m7
      have b1 := Q3.core.2.2.2.2.1
      unfold gN at b1
      obtain ⟨mm, hmm, _⟩ := hT.2.2
      have b2 := hmm.1.2.2.2.2.1
      unfold gN at b2
      exact sub_ne (by omega) (by omega) m7
    have hbr3 : BR x M3 (rcp N3 (x + 95 + 16) (x + 95 + 8) 665) := by
      unfold BR
      rw [rcp_ne (by omega), rcp_ne (by omega), fM3 _ _ (by omega), fM3 _ _ (by omega), wi_rwo (by omega), fM2 _ _ (by omega), fM2 _ _ (by omega), vm3.1 _ _ (by omega) (by omega) (by omega), vm3.1 _ _ (by omega) (by omega) (by omega), wi_rwo (by omega)]
      exact qb
    obtain ⟨M4, N4, p1, p2, p3, p4, p5, p6, p7, p8⟩ := best_ok (a := Int32.ofNat k) (b := N3.1 (x + 95 + 8) 7 - N.1 (x + 95 + 8) 7) hbr3 hne (ofn_ne (by omega))
    have b1 : l_X2_findTarget_13 (x + 79) (x + 19 + 1) (M.2.2 0) n (Int32.ofNat k) M1 = some (.inl (Int32.ofNat (k + 1), M4)) := by
      refine Wp.eq ?_
      unfold l_X2_findTarget_13
      refine Wp.ng (i64' (by omega)) (Wp.cl e1 (Wp.nam (Wp.cl g1 ?_)))
      rw [e7, e7b]
      refine Wp.cl p1 (Wp.nam ?_)
      rw [i_ad1]
      exact Wp.ret rfl
    have b2 : l_X11_toAim_49 (x + 95) n what (Int32.ofNat k) N1 = some (.inl (Int32.ofNat (k + 1), N4)) := by
      refine Wp.eq ?_
      unfold l_X11_toAim_49
      refine Wp.ng (i64' (by omega)) (Wp.nam (Wp.cl g2 (Wp.nam (Wp.cl Q3.bk ?_))))
      rw [e167]
      refine Wp.cl p2 (Wp.nam ?_)
      rw [i_ad1]
      exact Wp.ret rfl
    rw [lop2_inl b1, lop2_inl b2]
    refine ih (k + 1) fc fm M4 N4 (by omega) (by omega) (by omega) ⟨fun b a hb => by rw [p5 _ _ (by omega)]; exact f2.1 b a hb, by rw [p6]; exact f2.2⟩ ⟨fun b a hb => by rw [p7 _ _ (by omega)]; exact f3.1 b a hb, by rw [p8]; exact f3.2⟩ (f1.2.2.2.1.cg (fun b a hb => p7 _ _ (by omega)) (f1.2.2.2.1.2.2.2.2.cg (funext fun _ => p7 _ _ (by omega)) (funext fun _ => p7 _ _ (by omega)) (funext fun _ => p7 _ _ (by omega)))) (fun j hj => by rw [p7 _ _ (by omega), rcp_ne (by omega)]; exact Q3.2.2.1 j hj) (by rw [p7 _ _ (by omega)]; exact f4) p3 (fun _ => p4) (by omega)
theorem call_toAim {x : Nat} {L : LN} {M N0 N : Mem} {n what : Int32} (h : Rdy x L M N0 N) : CallT x κ2 M N (f_X10_toAim x n what M) (f_X11_toAim (x + 95) n what N0) := by
  obtain ⟨hr, hI, hc0⟩ := h
  have ha := hI.at
  have e1 : (1 : Int32).toInt = 1 := rfl
  have e400 : (400 : Int32).toInt = 400 := rfl
  have e0 : (0 : Int32).toInt = 0 := rfl
  have l1 : (1 : Int64).toInt = 1 := rfl
  have l400 : (400 : Int64).toInt = 400 := rfl
  by_cases hw : 0 ≤ what.toInt ∧ what.toInt ≤ 1
  · by_cases hn : 1 ≤ n.toInt ∧ n.toInt ≤ 400
    · obtain ⟨T, hT⟩ := hI.w0
      have w36 : ∀ b k, ¬ (b = x + 95 ∧ k = 36) → (wi N (x + 95) 36 (-1)).1 b k = N.1 b k := fun b k hb => if_neg hb
      have hq0 : GQ x N (rcp (wi N (x + 95) 36 (-1)) (x + 95 + 8) (x + 95 + 16) 665) := ⟨fun b k hb => by
        rw [rcp_ne (by omega)]
        exact w36 b k (by omega), rfl⟩
      have hE0 : EnvM (x + 95) (rcp (wi N (x + 95) 36 (-1)) (x + 95 + 8) (x + 95 + 16) 665) L := hI.2.2.2.1.cg (fun b k hb => by rw [rcp_ne (by omega), w36 b k (by omega)]) (hI.2.2.2.1.2.2.2.2.cg (funext fun _ => by rw [rcp_ne (by omega), w36 _ _ (by omega)]) (funext fun _ => by rw [rcp_ne (by omega), w36 _ _ (by omega)]) (funext fun _ => by rw [rcp_ne (by omega), w36 _ _ (by omega)]))
      have hf0 : FQ x M (wi (wi M (x + 79) 1 (-1)) (x + 79) 2 (-1)) := (FQ.rf.wr (by omega)).wr (by omega)
      obtain ⟨M2, N2, g1, g2, hf, b1, b2⟩ := aim_loop (what := what) hI hT hn 64 1 FU FU (wi (wi M (x + 79) 1 (-1)) (x + 79) 2 (-1)) _ (by omega) (by unfold FU; omega) (by unfold FU; omega) hf0 hq0 hE0 (fun j hj => by rw [rcp_in hj, w36 _ _ (by omega)]) (by rw [rcp_ne (by omega), w36 _ _ (by omega)]) ⟨by rw [wi_sl (by decide), wi_hit, rcp_ne (by omega), wi_hit], Or.inl (by rw [wi_sl (by decide), wi_hit])⟩ (fun h => absurd h (by decide)) (Nat.le_refl _)
      refine hf.t (v := if what = 0 then N2.1 (x + 95) 36 else N2.1 (x + 95) 37) hc0 ?_ ?_
      · refine Wp.eq ?_
        unfold f_X10_toAim
        refine Wp.j0 (Wp.ng (nlt_of (by rw [e0]; omega)) (Wp.ps (le_of (by rw [e1]; omega)) ?_))
        refine Wp.j0 (Wp.ng (nlt_of (by rw [e1]; omega)) (Wp.ps (le_of (by rw [e400]; omega)) ?_))
        refine Wp.gp ha ?_
        have e : f_X2_findTarget (x + 79) (x + 19 + 1) (M.2.2 0) n M = some ((), M2) := g1
        refine Wp.cl e (Wp.j1 (Wp.br (fun g => Wp.ret ?_) (fun g => Wp.ret ?_)))
        · rw [if_pos g, b1]
        · rw [if_neg g, b2]
      · refine Wp.eq ?_
        unfold f_X11_toAim
        refine Wp.cl hr (Wp.cl (e_in1 (by rw [q0, l1]; omega)) (Wp.ng (by decide) ?_))
        refine Wp.cl (e_in1 (by rw [l1, l400]; omega)) (Wp.ng (by decide) (Wp.nam ?_))
        have e : f_X11_rememberNow (x + 95) (wi N (x + 95) 36 (-1)) = some ((), rcp (wi N (x + 95) 36 (-1)) (x + 95 + 8) (x + 95 + 16) 665) := by
          unfold f_X11_rememberNow
          rw [bd_eq (e_copyTo (by omega) (by decide))]
        refine Wp.cl e ?_
        exact ⟨_, g2, rfl⟩
    · refine CallT.err (e := 1) (k := 2) hI ?_ ?_ rfl
      · refine Wp.eq ?_
        unfold f_X10_toAim
        refine Wp.j0 (Wp.ng (nlt_of (by rw [e0]; omega)) (Wp.ps (le_of (by rw [e1]; omega)) ?_))
        refine Wp.j0 (Wp.br (fun _ => Wp.ret rfl) (fun g => Wp.ng (nle_of ?_) (Wp.ret rfl)))
        have := Int32.le_iff_toInt_le.mp (nlt_le.mp g)
        rw [e1] at this
        rw [e400]
        omega
      · refine Wp.eq ?_
        unfold f_X11_toAim
        refine Wp.cl hr (Wp.cl (e_in1 (by rw [q0, l1]; omega)) (Wp.ng (by decide) ?_))
        refine Wp.cl (e_in0 (by rw [l1, l400]; omega)) (Wp.ps rfl ?_)
        exact Wp.cl e_fail (Wp.ret rfl)
  · refine CallT.err (e := 0) (k := 1) hI ?_ ?_ rfl
    · refine Wp.eq ?_
      unfold f_X10_toAim
      refine Wp.j0 (Wp.br (fun _ => Wp.ret rfl) (fun g => Wp.ng (nle_of ?_) (Wp.ret rfl)))
      have := Int32.le_iff_toInt_le.mp (nlt_le.mp g)
      rw [e0] at this
      rw [e1]
      omega
    · refine Wp.eq ?_
      unfold f_X11_toAim
      refine Wp.cl hr ?_
      refine Wp.cl (e_in0 (by rw [q0, l1]; omega)) (Wp.ps rfl ?_)
      exact Wp.cl e_fail (Wp.ret rfl)
