/-! years -/
def nxS (s : Int32) : Int32 := s * 1103515245 + 12345
def drw (s n : Int32) : Int32 := imod ((nxS s >>> ((16 : Int32) &&& 31)) &&& 32767) n
theorem e_drawC {t : Nat} {n : Int32} {M : Mem} : f_X2_draw t n M = some (drw (M.1 t 5) n, wi M t 5 (nxS (M.1 t 5))) := by
  refine Wp.eq ?_
  unfold f_X2_draw
  refine Wp.nam ?_
  have h5 : (wi M t 5 (M.1 t 5 * 1103515245 + 12345)).1 t 5 = nxS (M.1 t 5) := wi_hit
  rw [h5]
  exact Wp.cl (e_mod _ _ _) (Wp.ret rfl)
theorem e_drawM {t : Nat} {n : Int32} {M : Mem} (hn : 0 < n.toInt) : f_X11_drawOf t n M = some (drw (M.1 t 43) n, wi M t 43 (nxS (M.1 t 43))) := by
  refine Wp.eq ?_
  unfold f_X11_drawOf
  refine Wp.nam ?_
  have h5 : (wi M t 43 (M.1 t 43 * 1103515245 + 12345)).1 t 43 = nxS (M.1 t 43) := wi_hit
  rw [h5]
  refine Wp.gp (fun e => by rw [e] at hn; exact absurd hn (by decide)) (Wp.ret ?_)
  unfold drw
  have h0 : 0 ≤ ((nxS (M.1 t 43) >>> ((16 : Int32) &&& 31)) &&& 32767).toInt := by
    rw [ti_and32767]
    omega
  have e : (nxS (M.1 t 43) >>> ((16 : Int32) &&& 31) &&& 32767) - (nxS (M.1 t 43) >>> ((16 : Int32) &&& 31) &&& 32767) / n * n = imod (nxS (M.1 t 43) >>> ((16 : Int32) &&& 31) &&& 32767) n := Int32.toInt_inj.mp (by
    rw [ti_rem h0 hn, ti_mod hn])
  rw [e]
  rfl
theorem drw_rng {s n : Int32} (hn : 0 < n.toInt) : 0 ≤ (drw s n).toInt ∧ (drw s n).toInt < n.toInt := by
  unfold drw
  rw [ti_mod hn]
  exact ⟨Int.emod_nonneg _ (by omega), Int.emod_lt_of_pos _ hn⟩
theorem happen_ok {x : Nat} {L : LN} {p i d : Int32} {M N M1 N1 : Mem} {T : Int} (ha : lineAt x M) (q : QR x L p i M N T M1 N1) (hs : M1.1 (x + 79) 5 = N1.1 (x + 95) 43) (h29 : N1.1 (x + 95) 29 = 0) : ∃ M2 N2, QR x L p i M N T M2 N2 ∧ M2.1 (x + 79) 5 = N2.1 (x + 95) 43 ∧ N2.1 (x + 95) 29 = 0 ∧ f_X2_happen (x + 79) d M1 = some ((), M2) ∧ (∀ (β : Type) (K : Mem → Option β) (Q : β → Prop), Wp (K N2) Q → Wp (jn1 (fun M18 => jn1 (fun M19 => jn1 K (fun J126 => if d = (2 : Int32) then (bd (f_X11_drawOf (x + 95) (41 : Int32) M19) (fun u28 M29 => nm (wi M29 (x + 95 + 8) 27 (u28 - (20 : Int32))) (fun M30 => J126 M30))) else (J126 M19))) (fun J104 => if d = (1 : Int32) then (bd (f_X11_drawOf (x + 95) (12 : Int32) M18) (fun u31 M32 => nm (wi M32 (x + 95 + 8) 26 u31) (fun M33 => J104 M33))) else (J104 M18))) (fun J85 => if d = 0 then (bd (f_X11_drawOf (x + 95) (4 : Int32) N1) (fun u34 M35 => nm (wi M35 (x + 95 + 8) 25 u34) (fun M36 => J85 M36))) else (J85 N1))) Q) := by
  have base : ∀ s, QR x L p i M N T (wi M1 (x + 79) 5 s) (wi N1 (x + 95) 43 s) := fun s => q.wr ha (fun b k hb => by rw [wi_rwo (by omega)]) rfl (fun b k hb => by simp only [wi]; rw [if_neg (by omega)]) rfl
  have e5 : ∀ s, (wi M1 (x + 79) 5 s).1 (x + 79) 5 = s := fun s => wi_hit
  by_cases d0 : d = 0
  · have q2 := (base (nxS (M1.1 (x + 79) 5))).set (v := drw (M1.1 (x + 79) 5) 4) (d := 1) (k := 6) (j := 25) ha (by omega) (Or.inl ⟨rfl, rfl, rfl⟩) (fun e => absurd e (by decide))
    refine ⟨_, _, q2, ?_, ?_, ?_, fun β K Q hK => ?_⟩
    · rw [wi_rwo (by omega), wi_hit, wi_rwo (by omega), wi_hit]
    · rw [wi_rwo (by omega), wi_sl (by decide)]; exact h29
    · refine Wp.eq ?_
      unfold f_X2_happen
      exact Wp.j1 (Wp.ps d0 (Wp.cl e_drawC (Wp.nam (Wp.ret rfl))))
    · refine Wp.j1 (Wp.ps d0 (Wp.cl (e_drawM (by decide)) (Wp.nam (Wp.j1 (Wp.ng (by rw [d0]; decide) (Wp.j1 (Wp.ng (by rw [d0]; decide) ?_)))))))
      rw [← hs]
      exact hK
  · by_cases d1 : d = 1
    · have q2 := (base (nxS (M1.1 (x + 79) 5))).set (v := drw (M1.1 (x + 79) 5) 12) (d := 1) (k := 7) (j := 26) ha (by omega) (Or.inr (Or.inl ⟨rfl, rfl, rfl⟩)) (fun e => absurd e (by decide))
      refine ⟨_, _, q2, ?_, ?_, ?_, fun β K Q hK => ?_⟩
      · rw [wi_rwo (by omega), wi_hit, wi_rwo (by omega), wi_hit]
      · rw [wi_rwo (by omega), wi_sl (by decide)]; exact h29
      · refine Wp.eq ?_
        unfold f_X2_happen
        exact Wp.j1 (Wp.ng d0 (Wp.ps d1 (Wp.cl e_drawC (Wp.nam (Wp.ret rfl)))))
      · refine Wp.j1 (Wp.ng d0 (Wp.j1 (Wp.ps d1 (Wp.cl (e_drawM (by decide)) (Wp.nam (Wp.j1 (Wp.ng (by rw [d1]; decide) ?_)))))))
        rw [← hs]
        exact hK
    · by_cases d2 : d = 2
      · have hr := drw_rng (s := M1.1 (x + 79) 5) (n := 41) (by decide)
        have e41 : (41 : Int32).toInt = 41 := rfl
        have e20 : (20 : Int32).toInt = 20 := rfl
        rw [e41] at hr
        have hv : (drw (M1.1 (x + 79) 5) 41 - 20).toInt = (drw (M1.1 (x + 79) 5) 41).toInt - 20 := by rw [ti_sub (by rw [e20]; omega) (by rw [e20]; omega), e20]
        have q2 := (base (nxS (M1.1 (x + 79) 5))).set (v := drw (M1.1 (x + 79) 5) 41 - 20) (d := 1) (k := 0) (j := 27) ha (by omega) (Or.inr (Or.inr (Or.inl ⟨rfl, rfl, rfl⟩))) (fun _ => by rw [hv]; omega)
        refine ⟨_, _, q2, ?_, ?_, ?_, fun β K Q hK => ?_⟩
        · rw [wi_rwo (by omega), wi_hit, wi_rwo (by omega), wi_hit]
        · rw [wi_rwo (by omega), wi_sl (by decide)]; exact h29
        · refine Wp.eq ?_
          unfold f_X2_happen
          exact Wp.j1 (Wp.ng d0 (Wp.ng d1 (Wp.ps d2 (Wp.cl e_drawC (Wp.nam (Wp.ret rfl))))))
        · refine Wp.j1 (Wp.ng d0 (Wp.j1 (Wp.ng d1 (Wp.j1 (Wp.ps d2 (Wp.cl (e_drawM (by decide)) (Wp.nam ?_)))))))
          rw [← hs]
          exact hK
      · refine ⟨M1, N1, q, hs, h29, ?_, fun β K Q hK => Wp.j1 (Wp.ng d0 (Wp.j1 (Wp.ng d1 (Wp.j1 (Wp.ng d2 hK)))))⟩
        refine Wp.eq ?_
        unfold f_X2_happen
        exact Wp.j1 (Wp.ng d0 (Wp.ng d1 (Wp.ng d2 (Wp.ret rfl))))
theorem years_loop {x n : Nat} {L : LN} {M N : Mem} {w : Int32} (hI : Inv2 x L M N) (hn : n ≤ 60) : ∀ (m k fc fm : Nat) (a : Int32) (M1 N1 : Mem) (T : Int), k + m = n → m < fc → m < fm → 0 ≤ T → T + 10 * m ≤ 50000 → QR x L (L.1 2) (L.1 3) M N T M1 N1 → M1.1 (x + 79) 5 = N1.1 (x + 95) 43 → N1.1 (x + 95) 29 = 0 → ∃ v M2 N2, lop3 fc (l_X2_byChance_19 (x + 79) (x + 19 + 1) (M.2.2 0) (Int32.ofNat n) w) a (Int32.ofNat k) M1 = some (v, M2) ∧ lop3 fm (l_X11_years_55 (x + 95) (Int32.ofNat n) w) a (Int32.ofNat k) N1 = some (v, N2) ∧ Fin x L M N M2 N2 := by
  obtain ⟨T0, hT0, hC0⟩ := hI.sc
  have g7 : M.1 (x + 19 + 1 + 5 + 4) 1 = N.1 (x + 95 + 8) 7 := hC0.1.g7
  have g12 : M.1 (x + 19 + 1 + 5) 9 = N.1 (x + 95 + 8) 12 := hC0.1.g12
  intro m
  induction m with
  | zero =>
    intro k fc fm a M1 N1 T hk hc hf h0 h1 q hs h29
    obtain ⟨fm, rfl⟩ : ∃ q, fm = q + 1 := ⟨fm - 1, by omega⟩
    obtain ⟨fc, rfl⟩ : ∃ q, fc = q + 1 := ⟨fc - 1, by omega⟩
    obtain rfl : k = n := by omega
    have hle : Int32.ofNat k ≤ Int32.ofNat k := (i_le (by omega) (by omega)).mpr (Nat.le_refl _)
    have c7 : M1.1 (x + 79 + 1 + 5 + 4) 1 = N1.1 (x + 95 + 8) 7 := q.core.1.g7
    have c12 : M1.1 (x + 79 + 1 + 5) 9 = N1.1 (x + 95 + 8) 12 := q.core.1.g12
    have d7 : M1.1 (x + 19 + 1 + 5 + 4) 1 = N1.1 (x + 95 + 16) 7 := by rw [q.1.1 _ _ (by omega), g7, q.2.2.1 7 (by decide)]
    have d12 : M1.1 (x + 19 + 1 + 5) 9 = N1.1 (x + 95 + 16) 12 := by rw [q.1.1 _ _ (by omega), g12, q.2.2.1 12 (by decide)]
    refine ⟨if w = 0 then N1.1 (x + 95 + 8) 7 - N1.1 (x + 95 + 16) 7 else if w = 1 then N1.1 (x + 95 + 8) 12 - N1.1 (x + 95 + 16) 12 else a, M1, rcp N1 (x + 95 + 16) (x + 95 + 8) 665, lop3_inr (Wp.eq ?_), lop3_inr (Wp.eq ?_), q.fin hI h29 q.1⟩
    · unfold l_X2_byChance_19
      rw [c7, c12, d7, d12]
      refine Wp.ps hle (Wp.br (fun g => Wp.ret ?_) (fun g => Wp.j1 (Wp.br (fun g2 => Wp.ret ?_) (fun g2 => Wp.ret ?_))))
      · rw [if_pos g]
      · rw [if_neg g, if_pos g2]
      · rw [if_neg g, if_neg g2]
    · unfold l_X11_years_55
      refine Wp.ps hle (Wp.j1 (Wp.br (fun g => Wp.cl q.bk (Wp.ret ?_)) (fun g => Wp.br (fun g2 => Wp.cl q.bk (Wp.ret ?_)) (fun g2 => Wp.cl q.bk (Wp.ret ?_)))))
      · rw [if_pos g]
      · rw [if_neg g, if_pos g2]
      · rw [if_neg g, if_neg g2]
  | succ m ih =>
    intro k fc fm a M1 N1 T hk hc hf h0 h1 q hs h29
    obtain ⟨fm, rfl⟩ : ∃ q, fm = q + 1 := ⟨fm - 1, by omega⟩
    obtain ⟨fc, rfl⟩ : ∃ q, fc = q + 1 := ⟨fc - 1, by omega⟩
    have hlt : ¬ Int32.ofNat n ≤ Int32.ofNat k := i64_lt (by omega) (by omega)
    have q1 : QR x L (L.1 2) (L.1 3) M N T (wi M1 (x + 79) 5 (nxS (M1.1 (x + 79) 5))) (wi N1 (x + 95) 43 (nxS (N1.1 (x + 95) 43))) := q.wr hI.at (fun b k hb => by rw [wi_rwo (by omega)]) rfl (fun b k hb => by simp only [wi]; rw [if_neg (by omega)]) rfl
    obtain ⟨M2, N2, q2, s2, z2, e2, e2'⟩ := happen_ok (d := drw (M1.1 (x + 79) 5) 5) hI.at q1 (by rw [wi_hit, wi_hit, hs]) (by rw [wi_sl (by decide)]; exact h29)
    obtain ⟨M3, N3, e3, e3', q3, s3, fM3, vm3, _⟩ := q2.go hI.1 hI.at (k := 10) (by decide) ⟨h0, by omega⟩
    obtain ⟨lv1, lv2⟩ := q3.level hI.1 hI.at ⟨by omega, by omega⟩
    generalize levR (L.1 0) (N3.1 (x + 95 + 8)) = lev at lv1 lv2
    have b1 : l_X2_byChance_19 (x + 79) (x + 19 + 1) (M.2.2 0) (Int32.ofNat n) w a (Int32.ofNat k) M1 = some (.inl (imax a lev, Int32.ofNat (k + 1), M3)) := by
      refine Wp.eq ?_
      unfold l_X2_byChance_19
      refine Wp.ng hlt (Wp.cl e_drawC (Wp.cl e2 (Wp.cl e3 (Wp.cl lv1 (Wp.cl (e_max _ _ _) (Wp.nam ?_))))))
      rw [i_ad1]
      exact Wp.ret rfl
    have b2 : l_X11_years_55 (x + 95) (Int32.ofNat n) w a (Int32.ofNat k) N1 = some (.inl (imax a lev, Int32.ofNat (k + 1), N3)) := by
      refine Wp.eq ?_
      unfold l_X11_years_55
      refine Wp.ng hlt (Wp.cl (e_drawM (by decide)) ?_)
      rw [hs] at e2'
      refine e2' _ _ _ ?_
      refine Wp.cl e3' (Wp.cl lv2 (Wp.cl (e_max _ _ _) (Wp.nam ?_)))
      rw [i_ad1]
      exact Wp.ret rfl
    obtain ⟨v, M4, N4, r1, r2, r3⟩ := ih (k + 1) fc fm (imax a lev) M3 N3 (T + ((10 : Nat) : Int)) (by omega) (by omega) (by omega) (by omega) (by omega) q3 (by rw [fM3 _ _ (by omega), vm3.1 _ _ (by omega) (by omega) (by omega)]; exact s2) (s3 z2)
    exact ⟨v, M4, N4, (lop3_inl b1).trans r1, (lop3_inl b2).trans r2, r3⟩
theorem call_years {x : Nat} {L : LN} {M N0 N : Mem} {s n w : Int32} (h : Rdy x L M N0 N) : CallT x κ2 M N (f_X10_years x s n w M) (f_X11_years (x + 95) s n w N0) := by
  obtain ⟨hr, hI, hc0⟩ := h
  have e2 : (2 : Int32).toInt = 2 := rfl
  have e60 : (60 : Int32).toInt = 60 := rfl
  have e0 : (0 : Int32).toInt = 0 := rfl
  have l2 : (2 : Int64).toInt = 2 := rfl
  have l60 : (60 : Int64).toInt = 60 := rfl
  by_cases hw : 0 ≤ w.toInt ∧ w.toInt ≤ 2
  · by_cases hn : 0 ≤ n.toInt ∧ n.toInt ≤ 60
    · obtain ⟨T, t0, t1, M1, N1, c1, c2, q, s0, fN, fM⟩ := hI.rw0
      have hnn : n = Int32.ofNat n.toInt.toNat := nat_of hn.1
      have q1 : QR x L (L.1 2) (L.1 3) M N T (wi M1 (x + 79) 5 s) (wi N1 (x + 95) 43 s) := q.wr hI.at (fun b k hb => by rw [wi_rwo (by omega)]) rfl (fun b k hb => by simp only [wi]; rw [if_neg (by omega)]) rfl
      obtain ⟨v, M2, N2, g1, g2, hf⟩ := years_loop (w := w) hI (show n.toInt.toNat ≤ 60 by omega) n.toInt.toNat 0 FU FU 0 _ _ T (by omega) (by unfold FU; omega) (by unfold FU; omega) t0 (by omega) q1 (by rw [wi_hit, wi_hit]) (by rw [wi_sl (by decide)]; exact s0)
      rw [← hnn] at g1 g2
      refine hf.t (v := v) hc0 (Wp.eq ?_) (Wp.eq ?_)
      · unfold f_X10_years
        refine Wp.j0 (Wp.ng (nlt_of (by rw [e0]; omega)) (Wp.ps (le_of (by rw [e2]; omega)) ?_))
        refine Wp.j0 (Wp.ng (nlt_of (by rw [e0]; omega)) (Wp.ps (le_of (by rw [e60]; omega)) (Wp.gp hI.at ?_)))
        have e : f_X2_byChance (x + 79) (x + 19 + 1) (M.2.2 0) s n w M = some (v, M2) := by
          refine Wp.eq ?_
          unfold f_X2_byChance
          exact Wp.cl c1 (Wp.nam ⟨_, g1, rfl⟩)
        exact Wp.cl e (Wp.ret rfl)
      · unfold f_X11_years
        exact Wp.cl hr (Wp.cl (e_in1 (by rw [q0, l2]; omega)) (Wp.ng (by decide) (Wp.cl (e_in1 (by rw [q0, l60]; omega)) (Wp.ng (by decide) (Wp.cl c2 (Wp.nam ⟨_, g2, rfl⟩))))))
    · refine CallT.err (e := 1) (k := 2) hI (Wp.eq ?_) (Wp.eq ?_) rfl
      · unfold f_X10_years
        refine Wp.j0 (Wp.ng (nlt_of (by rw [e0]; omega)) (Wp.ps (le_of (by rw [e2]; omega)) ?_))
        refine Wp.j0 (Wp.br (fun _ => Wp.ret rfl) (fun g => Wp.ng (nle_of ?_) (Wp.ret rfl)))
        have := Int32.le_iff_toInt_le.mp (nlt_le.mp g)
        rw [e0] at this
        rw [e60]
        omega
      · unfold f_X11_years
        exact Wp.cl hr (Wp.cl (e_in1 (by rw [q0, l2]; omega)) (Wp.ng (by decide) (Wp.cl (e_in0 (by rw [q0, l60]; omega)) (Wp.ps rfl (Wp.cl e_fail (Wp.ret rfl))))))
  · refine CallT.err (e := 0) (k := 1) hI (Wp.eq ?_) (Wp.eq ?_) rfl
    · unfold f_X10_years
      refine Wp.j0 (Wp.br (fun _ => Wp.ret rfl) (fun g => Wp.ng (nle_of ?_) (Wp.ret rfl)))
      have := Int32.le_iff_toInt_le.mp (nlt_le.mp g)
      rw [e0] at this
      rw [e2]
      omega
    · unfold f_X11_years
      exact Wp.cl hr (Wp.cl (e_in0 (by rw [q0, l2]; omega)) (Wp.ps rfl (Wp.cl e_fail (Wp.ret rfl))))
