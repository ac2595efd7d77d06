/-! Gains tried. -/
theorem ilt {n k : Nat} (hn : n < 2 ^ 31) (hk : k ≤ n) : ¬ Int32.ofNat n < Int32.ofNat k := fun g => by
  have := (i_lt (by omega) (by omega)).mp g
  omega
theorem e_off {x : Nat} {L : LN} {p i : Int32} {M N M1 N1 : Mem} {T : Int} (h : QR x L p i M N T M1 N1) (hW : LWf L) (ha : lineAt x M) (hT : 0 ≤ T ∧ T ≤ 60000) : f_X2_offTarget (x + 79) (M1.1 (M.2.2 0) 0) M1 = some (iabs (levR (L.1 0) (N1.1 (x + 95 + 8)) - N1.1 (x + 95 + 8) 29), M1) := by
  refine Wp.eq ?_
  unfold f_X2_offTarget
  have e29 : M1.1 (x + 79 + 1 + 5) 1 = N1.1 (x + 95 + 8) 29 := h.core.1.g29
  refine Wp.cl (h.level hW ha hT).1 (Wp.cl (e_abs _ _) (Wp.ret ?_))
  rw [e29]
theorem off_loop {x n : Nat} {L : LN} {p i : Int32} {M N : Mem} (hW : LWf L) (ha : lineAt x M) (hn : n ≤ 400) : ∀ (m k fc fm : Nat) (acc : Int32) (M1 N1 : Mem) (T : Int), k + m = n → m < fc → m < fm → 0 ≤ T → T + m ≤ 60000 → QR x L p i M N T M1 N1 → ∃ v M2 N2, lop3 fc (l_X2_mostOffTarget_5 (x + 79) (M.2.2 0) (Int32.ofNat n)) acc (Int32.ofNat k) M1 = some (v, M2) ∧ lop3 fm (l_X11_farOff_4 (x + 95) (Int32.ofNat n)) acc (Int32.ofNat k) N1 = some (v, rcp N2 (x + 95 + 16) (x + 95 + 8) 665) ∧ QR x L p i M N (T + m) M2 N2 ∧ (N1.1 (x + 95) 29 = 0 → N2.1 (x + 95) 29 = 0) ∧ (∀ b k, ¬ (b = x + 7 ∨ b = x + 10 ∨ b = x + 15 ∨ b = x + 18 ∨ (x + 80 ≤ b ∧ b < x + 92)) → M2.1 b k = M1.1 b k) ∧ VM (x + 95) N1 N2 := by
  intro m
  induction m with
  | zero =>
    intro k fc fm acc M1 N1 T hk hc hm hT0 hT q
    obtain ⟨fc, rfl⟩ : ∃ q, fc = q + 1 := ⟨fc - 1, by omega⟩
    obtain ⟨fm, rfl⟩ : ∃ q, fm = q + 1 := ⟨fm - 1, by omega⟩
    obtain rfl : k = n := by omega
    have hle : Int32.ofNat k ≤ Int32.ofNat k := (i_le (by omega) (by omega)).mpr (Nat.le_refl _)
    refine ⟨acc, M1, N1, lop3_inr (Wp.eq ?_), lop3_inr (Wp.eq ?_), ?_, fun g => g, fun _ _ _ => rfl, VM.rf⟩
    · unfold l_X2_mostOffTarget_5
      exact Wp.ps hle (Wp.ret rfl)
    · unfold l_X11_farOff_4
      exact Wp.ps hle (Wp.cl q.bk (Wp.ret rfl))
    · have : T + ((0 : Nat) : Int) = T := by omega
      rw [this]; exact q
  | succ m ih =>
    intro k fc fm acc M1 N1 T hk hc hm hT0 hT q
    obtain ⟨fc, rfl⟩ : ∃ q, fc = q + 1 := ⟨fc - 1, by omega⟩
    obtain ⟨fm, rfl⟩ : ∃ q, fm = q + 1 := ⟨fm - 1, by omega⟩
    obtain ⟨M2, N2, e1, e2, q2, s2, fM2, vm2, _⟩ := q.step hW ha ⟨hT0, by omega⟩
    have hst : M2.1 (x + 79 + 1 + 5) 0 = N2.1 (x + 95 + 8) 8 := q2.core.1.g8
    have e29 : N2.1 (x + 95 + 8) 29 = N2.1 (x + 95 + 8) 29 := rfl
    generalize hv : (if N2.1 (x + 95 + 8) 8 = 2 then imax acc (iabs (levR (L.1 0) (N2.1 (x + 95 + 8)) - N2.1 (x + 95 + 8) 29)) else acc) = acc2
    have b1 : l_X2_mostOffTarget_5 (x + 79) (M.2.2 0) (Int32.ofNat n) acc (Int32.ofNat k) M1 = some (.inl (acc2, Int32.ofNat (k + 1), M2)) := by
      refine Wp.eq ?_
      unfold l_X2_mostOffTarget_5
      refine Wp.ng (i64_lt (by omega) (by omega)) (Wp.cl e1 (Wp.j2 (Wp.br (fun g => ?_) (fun g => ?_))))
      · rw [hst] at g
        refine Wp.cl (e_off q2 hW ha ⟨by omega, by omega⟩) (Wp.cl (e_max _ _ _) (Wp.nam ?_))
        rw [i_ad1, ← hv, if_pos g]
        exact Wp.ret rfl
      · rw [hst] at g
        refine Wp.nam ?_
        rw [i_ad1, ← hv, if_neg g]
        exact Wp.ret rfl
    have b2 : l_X11_farOff_4 (x + 95) (Int32.ofNat n) acc (Int32.ofNat k) N1 = some (.inl (acc2, Int32.ofNat (k + 1), N2)) := by
      refine Wp.eq ?_
      unfold l_X11_farOff_4
      refine Wp.ng (i64_lt (by omega) (by omega)) (Wp.cl e2 (Wp.j2 (Wp.br (fun g => ?_) (fun g => ?_))))
      · refine Wp.cl (q2.level hW ha ⟨by omega, by omega⟩).2 (Wp.cl (e_abs _ _) (Wp.cl (e_max _ _ _) (Wp.nam ?_)))
        rw [i_ad1, ← hv, if_pos g]
        exact Wp.ret rfl
      · refine Wp.nam ?_
        rw [i_ad1, ← hv, if_neg g]
        exact Wp.ret rfl
    rw [lop3_inl b1, lop3_inl b2]
    obtain ⟨v, M3, N3, g1, g2, g3, g4, g5, g6⟩ := ih (k + 1) fc fm acc2 M2 N2 (T + 1) (by omega) (by omega) (by omega) (by omega) (by omega) q2
    refine ⟨v, M3, N3, g1, g2, ?_, fun g => g4 (s2 g), fun b a hb => (g5 b a hb).trans (fM2 b a hb), vm2.tr g6⟩
    have : T + ((m + 1 : Nat) : Int) = T + 1 + (m : Int) := by omega
    rw [this]
    exact g3
theorem try_m1 {t : Nat} {N1 : Mem} {a : Int32} : f_X11_tryBest t a (-1) N1 = some ((), N1) := by
  refine Wp.eq ?_
  unfold f_X11_tryBest
  exact Wp.j0 (Wp.ps rfl (Wp.ret rfl))
/-- what holds between two tries of gains -/
def GA (x : Nat) (L : LN) (M N M1 N1 : Mem) : Prop := FQ x M M1 ∧ GR x N N1 ∧ EnvM (x + 95) N1 L ∧ (∀ j, j < 665 → N1.1 (x + 95 + 16) j = N.1 (x + 95 + 8) j) ∧ (∀ j, j < 665 → N1.1 (x + 95 + 8) j = N.1 (x + 95 + 8) j) ∧ N1.1 (x + 95) 29 = 0 ∧ M1.1 (x + 79) 1 = N1.1 (x + 95) 36 ∧ M1.1 (x + 79) 2 = N1.1 (x + 95) 37
theorem GA.wr {x k : Nat} {v : Int32} {L : LN} {M N M1 N1 : Mem} (h : GA x L M N M1 N1) (hk : k = 24 ∨ k = 25) : GA x L M N M1 (wi N1 (x + 95) k v) := by
  obtain ⟨a1, a2, a3, a4, a5, a6, a7, a8⟩ := h
  exact ⟨a1, a2.wr (by omega), a3.cg (fun b j hb => by rw [wi_rwo (by omega)]) (a3.2.2.2.2.cg (wi_rwo (by omega)) (wi_rwo (by omega)) (wi_rwo (by omega))), fun j hj => by rw [wi_rwo (by omega)]; exact a4 j hj, fun j hj => by rw [wi_rwo (by omega)]; exact a5 j hj, by rw [wi_sl (by omega)]; exact a6, by rw [wi_sl (by omega)]; exact a7, by rw [wi_sl (by omega)]; exact a8⟩
theorem gain_in {x n : Nat} {L : LN} {M N : Mem} {T : Int} {a : Nat} (hI : Inv2 x L M N) (hT : W0 L T (getW M (x + 19 + 1)) (N.1 (x + 95 + 8))) (hn : n ≤ 400) (ha9 : a ≤ 9) : ∀ (m b fc fm : Nat) (M1 N1 : Mem), b + m = 4 → m < fc → m < fm → GA x L M N M1 N1 → N1.1 (x + 95) 24 = Int32.ofNat a → N1.1 (x + 95) 25 = Int32.ofNat b → ∃ M2 N2, lop2 fc (l_X2_findGains_23 (x + 79) (x + 19 + 1) (M.2.2 0) (Int32.ofNat n) (Int32.ofNat a)) (Int32.ofNat b) M1 = some (.inl (Int32.ofNat (a + 1), M2)) ∧ lop1 fm (l_X11_toGain_82 (x + 95) (Int32.ofNat n)) N1 = some (.inl N2) ∧ GA x L M N M2 N2 ∧ N2.1 (x + 95) 24 = Int32.ofNat (a + 1) := by
  have ha := hI.at
  intro m
  induction m with
  | zero =>
    intro b fc fm M1 N1 hb hc hm hg h24 h25
    obtain ⟨fc, rfl⟩ : ∃ q, fc = q + 1 := ⟨fc - 1, by omega⟩
    obtain ⟨fm, rfl⟩ : ∃ q, fm = q + 1 := ⟨fm - 1, by omega⟩
    obtain rfl : b = 4 := by omega
    refine ⟨M1, wi N1 (x + 95) 24 (Int32.ofNat (a + 1)), lop2_inr (Wp.eq ?_), Wp.eq (Wp.l1 ?_), hg.wr (Or.inl rfl), wi_hit⟩
    · unfold l_X2_findGains_23
      refine Wp.ps (by decide) (Wp.nam ?_)
      rw [i_ad1]
      exact Wp.ret rfl
    · unfold l_X11_toGain_82
      rw [h25, h24]
      refine Wp.ps (by decide) (Wp.nam ?_)
      rw [i_ad1]
      exact Wp.ret rfl
  | succ m ih =>
    intro b fc fm M1 N1 hb hc hm hg h24 h25
    obtain ⟨fc, rfl⟩ : ∃ q, fc = q + 1 := ⟨fc - 1, by omega⟩
    obtain ⟨fm, rfl⟩ : ∃ q, fm = q + 1 := ⟨fm - 1, by omega⟩
    obtain ⟨a1, a2, a3, a4, a5, a6, a7, a8⟩ := hg
    obtain ⟨M2, e1, r1, _, fM2⟩ := QR.again hI a1 a2 a4 a3 a5 a6 hT
    have Q := r1 _ _ h24 h25
    have hT0 := hT.1
    have hT1 := hT.2.1
    obtain ⟨v, M3, N3, g1, g2, Q3, s3, fM3, vm3⟩ := off_loop hI.1 ha hn n 0 FU FU (-1) _ N1 T (by omega) (by unfold FU; omega) (by unfold FU; omega) (by omega) (by omega) Q
    have hMO : f_X2_mostOffTarget (x + 79) (M.2.2 0) (Int32.ofNat n) (wi (wi M2 (x + 79 + 1 + 5) 3 (Int32.ofNat a)) (x + 79 + 1 + 5) 4 (Int32.ofNat b)) = some (v, M3) := g1
    have hFO : f_X11_farOff (x + 95) (Int32.ofNat n) N1 = some (v, rcp N3 (x + 95 + 16) (x + 95 + 8) 665) := g2
    obtain ⟨k1, k2, k3, k4⟩ := Q3.back (v := v)
    have hga3 : GA x L M N M3 (rcp N3 (x + 95 + 16) (x + 95 + 8) 665) := by
      refine ⟨Q3.1, k2, k4, fun j hj => by rw [rcp_ne (by omega)]; exact Q3.2.2.1 j hj, k3, by rw [rcp_ne (by omega)]; exact s3 a6, ?_, ?_⟩
      · rw [fM3 _ _ (by omega), wi_rwo (by omega), wi_rwo (by omega), fM2 _ _ (by omega), rcp_ne (by omega), vm3.1 _ _ (by omega) (by omega) (by omega)]
        exact a7
      · rw [fM3 _ _ (by omega), wi_rwo (by omega), wi_rwo (by omega), fM2 _ _ (by omega), rcp_ne (by omega), vm3.1 _ _ (by omega) (by omega) (by omega)]
        exact a8
    have p24 : (rcp N3 (x + 95 + 16) (x + 95 + 8) 665).1 (x + 95) 24 = Int32.ofNat a := by rw [rcp_ne (by omega)]; exact Q3.2.2.2.2.2.1
    have p25 : (rcp N3 (x + 95 + 16) (x + 95 + 8) 665).1 (x + 95) 25 = Int32.ofNat b := by rw [rcp_ne (by omega)]; exact Q3.2.2.2.2.2.2.1
    have i3 : ¬ (3 : Int32) < Int32.ofNat b := ilt (n := 3) (by decide) (by omega)
    have key : ∃ M4 N4, (if v = -1 then some ((), M3) else f_X2_prefer (x + 79) (10 * Int32.ofNat a + Int32.ofNat b) v M3) = some ((), M4) ∧ f_X11_tryBest (x + 95) (10 * Int32.ofNat a + Int32.ofNat b) v (rcp N3 (x + 95 + 16) (x + 95 + 8) 665) = some ((), N4) ∧ GA x L M N M4 N4 ∧ N4.1 (x + 95) 24 = Int32.ofNat a ∧ N4.1 (x + 95) 25 = Int32.ofNat b := by
      by_cases hv : v = -1
      · subst hv
        exact ⟨M3, _, if_pos rfl, try_m1, hga3, p24, p25⟩
      · have hne : ¬ (10 : Int32) * Int32.ofNat a + Int32.ofNat b = -1 := by
          have e : (10 : Int32) * Int32.ofNat a + Int32.ofNat b = Int32.ofNat (10 * a + b) := i_lin (c := 10)
          rw [e]
          exact ofn_ne (by omega)
        obtain ⟨b1, b2, b3, b4, b5, b6, b7, b8⟩ := hga3
        obtain ⟨M4, N4, c1, c2, c3, c4, c5, c6, c7, c8⟩ := best_ok (x := x) (M1 := M3) (N1 := rcp N3 (x + 95 + 16) (x + 95 + 8) 665) ⟨b7, Or.inr b8⟩ hv hne
        refine ⟨M4, N4, by rw [if_neg hv]; exact c1, c2, ⟨⟨fun d j hd => by rw [c5 _ _ (by omega)]; exact b1.1 d j hd, by rw [c6]; exact b1.2⟩, ⟨fun d j hd => by rw [c7 _ _ (by omega)]; exact b2.1 d j hd, by rw [c8]; exact b2.2⟩, b3.cg (fun d j hd => c7 _ _ (by omega)) (b3.2.2.2.2.cg (funext fun _ => c7 _ _ (by omega)) (funext fun _ => c7 _ _ (by omega)) (funext fun _ => c7 _ _ (by omega))), fun j hj => by rw [c7 _ _ (by omega)]; exact b4 j hj, fun j hj => by rw [c7 _ _ (by omega)]; exact b5 j hj, by rw [c7 _ _ (by omega)]; exact b6, c3.1, c3.2.resolve_left c4⟩, by rw [c7 _ _ (by omega)]; exact p24, by rw [c7 _ _ (by omega)]; exact p25⟩
    obtain ⟨M4, N4, u1, u2, u3, u4, u5⟩ := key
    have b1 : l_X2_findGains_23 (x + 79) (x + 19 + 1) (M.2.2 0) (Int32.ofNat n) (Int32.ofNat a) (Int32.ofNat b) M1 = some (.inl (Int32.ofNat (b + 1), M4)) := by
      refine Wp.eq ?_
      unfold l_X2_findGains_23
      refine Wp.ng i3 (Wp.cl e1 (Wp.nam (Wp.nam (Wp.cl hMO (Wp.j1 (Wp.br (fun g => ?_) (fun g => ?_)))))))
      · rw [if_pos g] at u1
        injection u1 with u1
        injection u1 with _ u1
        subst u1
        refine Wp.nam ?_
        rw [i_ad1]
        exact Wp.ret rfl
      · rw [if_neg g] at u1
        refine Wp.cl u1 (Wp.nam ?_)
        rw [i_ad1]
        exact Wp.ret rfl
    rw [lop2_inl b1]
    have b2 : l_X11_toGain_82 (x + 95) (Int32.ofNat n) N1 = some (.inl (wi N4 (x + 95) 25 (Int32.ofNat (b + 1)))) := by
      refine Wp.eq ?_
      unfold l_X11_toGain_82
      rw [h25, h24]
      refine Wp.ng i3 (Wp.cl hFO (Wp.cl u2 (Wp.nam ?_)))
      rw [u5, i_ad1]
      exact Wp.ret rfl
    have hl1 : lop1 (fm + 1) (l_X11_toGain_82 (x + 95) (Int32.ofNat n)) N1 = lop1 fm (l_X11_toGain_82 (x + 95) (Int32.ofNat n)) (wi N4 (x + 95) 25 (Int32.ofNat (b + 1))) := by
      simp only [lop1, b2]
    rw [hl1]
    exact ih (b + 1) fc fm M4 _ (by omega) (by omega) (by omega) (u3.wr (Or.inr rfl)) (by rw [wi_sl (by decide)]; exact u4) wi_hit
theorem gain_out {x n : Nat} {L : LN} {M N : Mem} {T : Int} {what : Int32} (hI : Inv2 x L M N) (hT : W0 L T (getW M (x + 19 + 1)) (N.1 (x + 95 + 8))) (hn : n ≤ 400) : ∀ (m a fc fm : Nat) (M1 N1 : Mem), a + m = 10 → m < fc → m < fm → GA x L M N M1 N1 → N1.1 (x + 95) 24 = Int32.ofNat a → ∃ M2 N2, lop2 fc (l_X2_findGains_13 (x + 79) (x + 19 + 1) (M.2.2 0) (Int32.ofNat n)) (Int32.ofNat a) M1 = some ((), M2) ∧ lop1 fm (l_X11_toGain_68 (x + 95) (Int32.ofNat n) what (L.1 2) (L.1 3)) N1 = some (if what = 0 then N2.1 (x + 95) 36 else N2.1 (x + 95) 37, N2) ∧ Fin x L M N M2 N2 ∧ M2.1 (x + 79) 1 = N2.1 (x + 95) 36 ∧ M2.1 (x + 79) 2 = N2.1 (x + 95) 37 := by
  intro m
  induction m with
  | zero =>
    intro a fc fm M1 N1 hk hc hm hg h24
    obtain ⟨fc, rfl⟩ : ∃ q, fc = q + 1 := ⟨fc - 1, by omega⟩
    obtain ⟨fm, rfl⟩ : ∃ q, fm = q + 1 := ⟨fm - 1, by omega⟩
    obtain rfl : a = 10 := by omega
    have hg2 : GA x L M N M1 (wi (wi N1 (x + 95) 24 (L.1 2)) (x + 95) 25 (L.1 3)) := (hg.wr (Or.inl rfl)).wr (Or.inr rfl)
    obtain ⟨a1, a2, a3, a4, a5, a6, a7, a8⟩ := hg2
    have hq : GQ x N (wi (wi N1 (x + 95) 24 (L.1 2)) (x + 95) 25 (L.1 3)) := a2.gq a5 (by rw [wi_sl (by decide), wi_hit, hI.2.2.2.2.1]) (by rw [wi_hit, hI.2.2.2.2.2.1]) (by rw [a6, hI.2.2.2.2.2.2.1])
    refine ⟨M1, wi (wi N1 (x + 95) 24 (L.1 2)) (x + 95) 25 (L.1 3), lop2_inr (Wp.eq ?_), Wp.eq (Wp.l1 ?_), ⟨hI.q a1 hq a3.2.2.2.2, a1, hq, a2.1 _ _ (by omega)⟩, a7, a8⟩
    · unfold l_X2_findGains_13
      exact Wp.ps (by decide) (Wp.ret rfl)
    · unfold l_X11_toGain_68
      rw [h24]
      refine Wp.ps (by decide) (Wp.nam (Wp.nam (Wp.j1 (Wp.br (fun g => Wp.ret ?_) (fun g => Wp.ret ?_)))))
      · rw [if_pos g]; rfl
      · rw [if_neg g]; rfl
  | succ m ih =>
    intro a fc fm M1 N1 hk hc hm hg h24
    obtain ⟨fc, rfl⟩ : ∃ q, fc = q + 1 := ⟨fc - 1, by omega⟩
    obtain ⟨fm, rfl⟩ : ∃ q, fm = q + 1 := ⟨fm - 1, by omega⟩
    obtain ⟨M2, N2, g1, g2, g3, g4⟩ := gain_in hI hT hn (show a ≤ 9 by omega) 4 0 FU FU M1 (wi N1 (x + 95) 25 0) (by omega) (by unfold FU; omega) (by unfold FU; omega) (hg.wr (Or.inr rfl)) (by rw [wi_sl (by decide)]; exact h24) wi_hit
    have i9 : ¬ (9 : Int32) < Int32.ofNat a := ilt (n := 9) (by decide) (by omega)
    have b1 : l_X2_findGains_13 (x + 79) (x + 19 + 1) (M.2.2 0) (Int32.ofNat n) (Int32.ofNat a) M1 = some (.inl (Int32.ofNat (a + 1), M2)) := by
      unfold l_X2_findGains_13
      rw [if_neg i9]
      exact g1
    have b2 : l_X11_toGain_68 (x + 95) (Int32.ofNat n) what (L.1 2) (L.1 3) N1 = some (.inl N2) := by
      unfold l_X11_toGain_68 nm
      rw [h24, if_neg i9]
      exact g2
    have hl1 : lop1 (fm + 1) (l_X11_toGain_68 (x + 95) (Int32.ofNat n) what (L.1 2) (L.1 3)) N1 = lop1 fm (l_X11_toGain_68 (x + 95) (Int32.ofNat n) what (L.1 2) (L.1 3)) N2 := by
      simp only [lop1, b2]
    rw [lop2_inl b1, hl1]
    exact ih (a + 1) fc fm M2 N2 (by omega) (by omega) (by omega) g3 g4
theorem call_toGain {x : Nat} {L : LN} {M N0 N : Mem} {n what : Int32} (h : Rdy x L M N0 N) : CallT x κ2 M N (f_X10_toGain x n what M) (f_X11_toGain (x + 95) n what N0) := by
  obtain ⟨hr, hI, hc0⟩ := h
  have ha := hI.at
  have e1 : (1 : Int32).toInt = 1 := rfl
  have e400 : (400 : Int32).toInt = 400 := rfl
  have e0 : (0 : Int32).toInt = 0 := rfl
  have l1 : (1 : Int64).toInt = 1 := rfl
  have l400 : (400 : Int64).toInt = 400 := rfl
  by_cases hw : 0 ≤ what.toInt ∧ what.toInt ≤ 1
  · by_cases hn : 1 ≤ n.toInt ∧ n.toInt ≤ 400
    · obtain ⟨T, hT⟩ := hI.w0
      have hnn : n = Int32.ofNat n.toInt.toNat := nat_of (by omega)
      have w36 : ∀ b k, ¬ (b = x + 95 ∧ (k = 36 ∨ k = 37)) → (wi (wi N (x + 95) 36 (-1)) (x + 95) 37 (-1)).1 b k = N.1 b k := fun b k hb => by
        simp only [wi]
        rw [if_neg (by omega), if_neg (by omega)]
      have hg0 : GA x L M N (wi (wi M (x + 79) 1 (-1)) (x + 79) 2 (-1)) (wi (rcp (wi (wi N (x + 95) 36 (-1)) (x + 95) 37 (-1)) (x + 95 + 8) (x + 95 + 16) 665) (x + 95) 24 0) := by
        refine GA.wr ⟨(FQ.rf.wr (by omega)).wr (by omega), ⟨fun b k hb => by rw [rcp_ne (by omega), w36 _ _ (by omega)], rfl⟩, hI.2.2.2.1.cg (fun b k hb => by rw [rcp_ne (by omega), w36 b k (by omega)]) (hI.2.2.2.1.2.2.2.2.cg (funext fun _ => by rw [rcp_ne (by omega), w36 _ _ (by omega)]) (funext fun _ => by rw [rcp_ne (by omega), w36 _ _ (by omega)]) (funext fun _ => by rw [rcp_ne (by omega), w36 _ _ (by omega)])), fun j hj => by rw [rcp_in hj, w36 _ _ (by omega)], fun j hj => by rw [rcp_ne (by omega), w36 _ _ (by omega)], by rw [rcp_ne (by omega), w36 _ _ (by omega)]; exact hI.2.2.2.2.2.2.1, ?_, ?_⟩ (Or.inl rfl)
        · rw [wi_sl (by decide), wi_hit, rcp_ne (by omega), wi_sl (by decide), wi_hit]
        · rw [wi_hit, rcp_ne (by omega), wi_hit]
      obtain ⟨M2, N2, g1, g2, hf, b1, b2⟩ := gain_out (what := what) hI hT (show n.toInt.toNat ≤ 400 by omega) 10 0 FU FU _ _ (by omega) (by unfold FU; omega) (by unfold FU; omega) hg0 wi_hit
      rw [← hnn] at g1 g2
      refine hf.t (v := if what = 0 then N2.1 (x + 95) 36 else N2.1 (x + 95) 37) hc0 ?_ ?_
      · refine Wp.eq ?_
        unfold f_X10_toGain
        refine Wp.j0 (Wp.ng (nlt_of (by rw [e0]; omega)) (Wp.ps (le_of (by rw [e1]; omega)) ?_))
        refine Wp.j0 (Wp.ng (nlt_of (by rw [e1]; omega)) (Wp.ps (le_of (by rw [e400]; omega)) ?_))
        refine Wp.gp ha ?_
        have e : f_X2_findGains (x + 79) (x + 19 + 1) (M.2.2 0) n M = some ((), M2) := g1
        refine Wp.cl e (Wp.j1 (Wp.br (fun g => Wp.ret ?_) (fun g => Wp.ret ?_)))
        · rw [if_pos g, b1]
        · rw [if_neg g, b2]
      · refine Wp.eq ?_
        unfold f_X11_toGain
        refine Wp.cl hr (Wp.cl (e_in1 (by rw [q0, l1]; omega)) (Wp.ng (by decide) ?_))
        refine Wp.cl (e_in1 (by rw [l1, l400]; omega)) (Wp.ng (by decide) (Wp.nam (Wp.nam (Wp.nam (Wp.nam ?_)))))
        have e : f_X11_rememberNow (x + 95) (wi (wi N (x + 95) 36 (-1)) (x + 95) 37 (-1)) = some ((), rcp (wi (wi N (x + 95) 36 (-1)) (x + 95) 37 (-1)) (x + 95 + 8) (x + 95 + 16) 665) := by
          unfold f_X11_rememberNow
          rw [bd_eq (e_copyTo (by omega) (by decide))]
        refine Wp.cl e (Wp.nam ?_)
        rw [hI.2.2.2.2.1, hI.2.2.2.2.2.1]
        exact ⟨_, g2, rfl⟩
    · refine CallT.err (e := 1) (k := 2) hI ?_ ?_ rfl
      · refine Wp.eq ?_
        unfold f_X10_toGain
        refine Wp.j0 (Wp.ng (nlt_of (by rw [e0]; omega)) (Wp.ps (le_of (by rw [e1]; omega)) ?_))
        refine Wp.j0 (Wp.br (fun _ => Wp.ret rfl) (fun g => Wp.ng (nle_of ?_) (Wp.ret rfl)))
        have := Int32.le_iff_toInt_le.mp (nlt_le.mp g)
        rw [e1] at this
        rw [e400]
        omega
      · refine Wp.eq ?_
        unfold f_X11_toGain
        refine Wp.cl hr (Wp.cl (e_in1 (by rw [q0, l1]; omega)) (Wp.ng (by decide) ?_))
        refine Wp.cl (e_in0 (by rw [l1, l400]; omega)) (Wp.ps rfl ?_)
        exact Wp.cl e_fail (Wp.ret rfl)
  · refine CallT.err (e := 0) (k := 1) hI ?_ ?_ rfl
    · refine Wp.eq ?_
      unfold f_X10_toGain
      refine Wp.j0 (Wp.br (fun _ => Wp.ret rfl) (fun g => Wp.ng (nle_of ?_) (Wp.ret rfl)))
      have := Int32.le_iff_toInt_le.mp (nlt_le.mp g)
      rw [e0] at this
      rw [e1]
      omega
    · refine Wp.eq ?_
      unfold f_X11_toGain
      refine Wp.cl hr ?_
      refine Wp.cl (e_in0 (by rw [q0, l1]; omega)) (Wp.ps rfl ?_)
      exact Wp.cl e_fail (Wp.ret rfl)
