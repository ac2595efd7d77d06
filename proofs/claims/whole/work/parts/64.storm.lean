/-! storms -/
theorem QR.fate {x n k : Nat} {L : LN} {p i : Int32} {M N M1 N1 : Mem} {T : Int} (h : QR x L p i M N T M1 N1) (ha : lineAt x M) (hs : N1.1 (x + 95) 29 = 0) (hn : n < 5) (hk : k < 32) : QR x L p i M N T (wi (wi M1 (x + 79 + 1 + 1) 12 (Int32.ofNat (n + 1))) (x + 79 + 1 + 1) 13 (Int32.ofNat (revn (n + 1) k))) (wi (wi N1 (x + 95) 29 (Int32.ofNat (n + 1))) (x + 95) 30 (Int32.ofNat k)) := by
  obtain ⟨q1, q2, q3, q4, q5, q6, q7, q8⟩ := h
  have hw : ∀ b j, ¬ (b = x + 95 ∧ (j = 29 ∨ j = 30)) → (wi (wi N1 (x + 95) 29 (Int32.ofNat (n + 1))) (x + 95) 30 (Int32.ofNat k)).1 b j = N1.1 b j := fun b j hb => by
    simp only [wi]
    rw [if_neg (by omega), if_neg (by omega)]
  refine ⟨(q1.wr (by omega)).wr (by omega), (q2.wr (by omega)).wr (by omega), fun j hj => by rw [hw _ _ (by omega)]; exact q3 j hj, q4.cg (fun b j hb => by rw [wi_rwo (by unfold lineAt at ha; omega), wi_rwo (by unfold lineAt at ha; omega)]), q5.cg (fun b j hb => hw _ _ (by omega)) (q5.2.2.2.2.cg (funext fun _ => hw _ _ (by omega)) (funext fun _ => hw _ _ (by omega)) (funext fun _ => hw _ _ (by omega))), by rw [hw _ _ (by omega)]; exact q6, by rw [hw _ _ (by omega)]; exact q7, ?_⟩
  have hr : (wi (wi N1 (x + 95) 29 (Int32.ofNat (n + 1))) (x + 95) 30 (Int32.ofNat k)).1 (x + 95 + 8) = N1.1 (x + 95 + 8) := funext fun _ => hw _ _ (by omega)
  have h29 : (wi (wi N1 (x + 95) 29 (Int32.ofNat (n + 1))) (x + 95) 30 (Int32.ofNat k)).1 (x + 95) 29 = Int32.ofNat (n + 1) := by rw [wi_sl (by decide), wi_hit]
  rw [hr, h29, wi_hit, getW_wi, getW_wi]
  obtain ⟨m, ⟨⟨k1, k2, k3, k4, k5, k6, k7, k8, k9, k10, k11, k12, k13⟩, l2, l3, l4, l5, l6, l7⟩, h0⟩ := q8
  have fc : ∀ (c : CW) (a b : Nat) (u v : Int32), ¬ (a = 1 ∧ (b = 12 ∨ b = 13)) → uc (uc c 1 12 u) 1 13 v a b = c a b := fun c a b u v hd => by rw [uc_o (by omega), uc_o (by omega)]
  exact ⟨m, ⟨⟨(k1.uC (by decide)).uC (by decide), by rw [fc _ _ _ _ _ (by omega)]; exact k2, by rw [fc _ _ _ _ _ (by omega)]; exact k3, k4, k5, k6, k7, k8, k9.cg (fun a b hd => fc _ a b _ _ (by omega)) (fun _ _ _ => rfl), k10.cg (fun a => fc _ _ _ _ _ (by omega)) (fun _ _ => rfl), k11.cg (fun a => fc _ _ _ _ _ (by omega)) (fun _ _ => rfl), k12.cg (fc _ _ _ _ _ (by omega)) rfl rfl, k13.cg (fc _ _ _ _ _ (by omega)) (fun _ _ => rfl)⟩, l2, l3, l4.cg (fun a b hd _ => fc _ a b _ _ (by omega)) (fun _ _ _ => rfl), l5, l6, ⟨by rw [uc_o (by omega), uc_s], Or.inr ⟨n, k, hn, hk, rfl, rfl, by rw [uc_s]⟩⟩⟩, h0⟩
/-- the model goes on; it doesn't fill less -/
theorem on_dead {x n : Nat} {L : LN} {M N : Mem} (hI : Inv2 x L M N) (hn : n < 100000) : ∀ (m k fm : Nat) (M1 N1 : Mem) (T : Int), k + m = n → m < fm → 0 ≤ T → T + m ≤ 50000 → QR x L (L.1 2) (L.1 3) M N T M1 N1 → ∃ M3 N3, lop2 fm (l_X11_goOn_2 (x + 95) (Int32.ofNat n)) (Int32.ofNat k) N1 = some ((), N3) ∧ QR x L (L.1 2) (L.1 3) M N (T + m) M3 N3 ∧ (N1.1 (x + 95 + 8) 7).toInt ≤ (N3.1 (x + 95 + 8) 7).toInt ∧ VM (x + 95) N1 N3 := by
  intro m
  induction m with
  | zero =>
    intro k fm M1 N1 T hk hf hT0 hT q
    obtain ⟨fm, rfl⟩ : ∃ q, fm = q + 1 := ⟨fm - 1, by omega⟩
    obtain rfl : k = n := by omega
    refine ⟨M1, N1, lop2_inr (Wp.eq ?_), ?_, Int.le_refl _, VM.rf⟩
    · unfold l_X11_goOn_2
      exact Wp.ps ((i_le (by omega) (by omega)).mpr (Nat.le_refl _)) (Wp.ret rfl)
    · have : T + ((0 : Nat) : Int) = T := by omega
      rw [this]; exact q
  | succ m ih =>
    intro k fm M1 N1 T hk hf hT0 hT q
    obtain ⟨fm, rfl⟩ : ∃ q, fm = q + 1 := ⟨fm - 1, by omega⟩
    obtain ⟨M2, N2, e1, e2, q2, s2, fM2, vm2, m7, _⟩ := q.step hI.1 hI.at ⟨by omega, by omega⟩
    have b2 : l_X11_goOn_2 (x + 95) (Int32.ofNat n) (Int32.ofNat k) N1 = some (.inl (Int32.ofNat (k + 1), N2)) := by
      refine Wp.eq ?_
      unfold l_X11_goOn_2
      refine Wp.ng (i64_lt (by omega) (by omega)) (Wp.cl e2 (Wp.nam ?_))
      rw [i_ad1]
      exact Wp.ret rfl
    obtain ⟨M3, N3, r1, r2, r3, r4⟩ := ih (k + 1) fm M2 N2 (T + 1) (by omega) (by omega) (by omega) (by omega) q2
    have hTe : T + ((m + 1 : Nat) : Int) = T + 1 + (m : Int) := by omega
    exact ⟨M3, N3, (lop2_inl b2).trans r1, by rw [hTe]; exact r2, Int.le_trans m7 r3, vm2.tr r4⟩
theorem un_loop {x : Nat} {L : LN} {M N : Mem} (hI : Inv2 x L M N) : ∀ (m k fc fm : Nat) (M1 N1 : Mem) (T : Int), k + m = 80 → m < fc → m < fm → 0 ≤ T → T + m ≤ 50000 → QR x L (L.1 2) (L.1 3) M N T M1 N1 → N1.1 (x + 95 + 8) 7 = N.1 (x + 95 + 8) 7 → ∃ v M2 M3 N3 T3, lop2 fc (l_X2_isUnharmed_34 (x + 79) (x + 19 + 1) (M.2.2 0)) (Int32.ofNat k) M1 = some (v, M2) ∧ lop2 fm (l_X11_goOn_2 (x + 95) (Int32.ofNat 80)) (Int32.ofNat k) N1 = some ((), N3) ∧ QR x L (L.1 2) (L.1 3) M N T3 M3 N3 ∧ FQ x M M2 ∧ ((v = 1 ∧ N3.1 (x + 95 + 8) 7 = N.1 (x + 95 + 8) 7) ∨ (v = 0 ∧ ¬ N3.1 (x + 95 + 8) 7 = N.1 (x + 95 + 8) 7)) ∧ VM (x + 95) N1 N3 := by
  have g7 : M.1 (x + 19 + 1 + 5 + 4) 1 = N.1 (x + 95 + 8) 7 := by
    obtain ⟨T, hT, hC⟩ := hI.sc
    exact hC.1.g7
  intro m
  induction m with
  | zero =>
    intro k fc fm M1 N1 T hk hc hf hT0 hT q h7
    obtain ⟨fm, rfl⟩ : ∃ q, fm = q + 1 := ⟨fm - 1, by omega⟩
    obtain ⟨fc, rfl⟩ : ∃ q, fc = q + 1 := ⟨fc - 1, by omega⟩
    obtain rfl : k = 80 := by omega
    refine ⟨1, M1, M1, N1, T, lop2_inr (Wp.eq ?_), lop2_inr (Wp.eq ?_), q, q.1, Or.inl ⟨rfl, h7⟩, VM.rf⟩
    · unfold l_X2_isUnharmed_34
      exact Wp.ps (by decide) (Wp.ret rfl)
    · unfold l_X11_goOn_2
      exact Wp.ps ((i_le (by omega) (by omega)).mpr (Nat.le_refl _)) (Wp.ret rfl)
  | succ m ih =>
    intro k fc fm M1 N1 T hk hc hf hT0 hT q h7
    obtain ⟨fm, rfl⟩ : ∃ q, fm = q + 1 := ⟨fm - 1, by omega⟩
    obtain ⟨fc, rfl⟩ : ∃ q, fc = q + 1 := ⟨fc - 1, by omega⟩
    obtain ⟨M2, N2, e1, e2, q2, s2, fM2, vm2, m7, _⟩ := q.step hI.1 hI.at ⟨by omega, by omega⟩
    have b2 : l_X11_goOn_2 (x + 95) (Int32.ofNat 80) (Int32.ofNat k) N1 = some (.inl (Int32.ofNat (k + 1), N2)) := by
      refine Wp.eq ?_
      unfold l_X11_goOn_2
      refine Wp.ng (i64_lt (by omega) (by omega)) (Wp.cl e2 (Wp.nam ?_))
      rw [i_ad1]
      exact Wp.ret rfl
    have i80 : ¬ (80 : Int32) ≤ Int32.ofNat k := fun g => by
      have := (i_le (a := 80) (b := k) (by omega) (by omega)).mp g
      omega
    have c7 : M2.1 (x + 79 + 1 + 5 + 4) 1 = N2.1 (x + 95 + 8) 7 := q2.core.1.g7
    have c7' : M2.1 (x + 19 + 1 + 5 + 4) 1 = N.1 (x + 95 + 8) 7 := by rw [q2.1.1 _ _ (by omega)]; exact g7
    by_cases g : N2.1 (x + 95 + 8) 7 = N.1 (x + 95 + 8) 7
    · have b1 : l_X2_isUnharmed_34 (x + 79) (x + 19 + 1) (M.2.2 0) (Int32.ofNat k) M1 = some (.inl (Int32.ofNat (k + 1), M2)) := by
        refine Wp.eq ?_
        unfold l_X2_isUnharmed_34
        refine Wp.ng i80 (Wp.cl e1 ?_)
        rw [c7, c7']
        refine Wp.ps g (Wp.nam ?_)
        rw [i_ad1]
        exact Wp.ret rfl
      obtain ⟨v, M4, M3, N3, T3, r1, r2, r3, r4, r5, r6⟩ := ih (k + 1) fc fm M2 N2 (T + 1) (by omega) (by omega) (by omega) (by omega) (by omega) q2 g
      exact ⟨v, M4, M3, N3, T3, (lop2_inl b1).trans r1, (lop2_inl b2).trans r2, r3, r4, r5, vm2.tr r6⟩
    · obtain ⟨M3, N3, r1, r2, r3, r4⟩ := on_dead hI (show 80 < 100000 by decide) m (k + 1) fm M2 N2 (T + 1) (by omega) (by omega) (by omega) (by omega) q2
      refine ⟨0, M2, M3, N3, _, lop2_inr (Wp.eq ?_), (lop2_inl b2).trans r1, r2, q2.1, Or.inr ⟨rfl, fun e => ?_⟩, vm2.tr r4⟩
      · unfold l_X2_isUnharmed_34
        refine Wp.ng i80 (Wp.cl e1 ?_)
        rw [c7, c7']
        exact Wp.ng g (Wp.ret rfl)
      · rw [h7] at m7
        rw [e] at r3
        exact g (Int32.toInt_inj.mp (by omega))
/-- one storm, on both sides -/
theorem storm1 {x n k : Nat} {L : LN} {M N M1 N1 : Mem} (hI : Inv2 x L M N) (hn : n < 5) (hk : k < 32) (hG : GL x L M N M1 N1) : ∃ v M2 N2, f_X2_isUnharmed (x + 79) (x + 19 + 1) (M.2.2 0) (Int32.ofNat (n + 1)) (Int32.ofNat (revn (n + 1) k)) M1 = some (v, M2) ∧ f_X11_goOn (x + 95) 80 (wi (wi N1 (x + 95) 29 (Int32.ofNat (n + 1))) (x + 95) 30 (Int32.ofNat k)) = some ((), N2) ∧ f_X11_back (x + 95) 0 (wi N2 (x + 95) 29 0) = some (0, rcp (wi N2 (x + 95) 29 0) (x + 95 + 16) (x + 95 + 8) 665) ∧ GL x L M N M2 (rcp (wi N2 (x + 95) 29 0) (x + 95 + 16) (x + 95 + 8) 665) ∧ N2.1 (x + 95 + 16) 7 = N.1 (x + 95 + 8) 7 ∧ ((v = 1 ∧ N2.1 (x + 95 + 8) 7 = N.1 (x + 95 + 8) 7) ∨ (v = 0 ∧ ¬ N2.1 (x + 95 + 8) 7 = N.1 (x + 95 + 8) 7)) := by
  obtain ⟨a1, a2, a3, a4, a5, a6, a7, a8⟩ := hG
  obtain ⟨T, hT⟩ := hI.w0
  obtain ⟨M2, e1, _, r1, fM2⟩ := QR.again hI a1 a2 a4 a3 a5 a6 hT
  have q := (r1 a7 a8).fate (n := n) (k := k) hI.at a6 hn hk
  have hT1 := hT.2.1
  obtain ⟨v, M3, M4, N4, T4, g1, g2, q4, fq, hv, vm⟩ := un_loop hI 80 0 FU FU _ _ T (by omega) (by unfold FU; omega) (by unfold FU; omega) hT.1 (by omega) q (by rw [wi_rwo (by omega), wi_rwo (by omega)]; exact a5 7 (by decide))
  obtain ⟨b1, b2, b3, b4, b5, b6, b7, b8⟩ := q4
  have hw : ∀ b j, ¬ (b = x + 95 ∧ j = 29) → (wi N4 (x + 95) 29 0).1 b j = N4.1 b j := fun b j hb => by
    simp only [wi]
    rw [if_neg hb]
  refine ⟨v, M3, N4, ?_, g2, ?_, ⟨fq, ⟨fun b j hb => ?_, b2.2⟩, ?_, fun j hj => ?_, fun j hj => ?_, ?_, ?_, ?_⟩, b3 7 (by decide), hv⟩
  · refine Wp.eq ?_
    unfold f_X2_isUnharmed
    exact Wp.cl e1 (Wp.nam (Wp.nam ⟨_, g1, rfl⟩))
  · unfold f_X11_back
    rw [bd_eq (e_copyTo (by omega) (by decide))]
  · rw [rcp_ne (by omega), hw _ _ (by omega)]
    exact b2.1 b j hb
  · exact b5.cg (fun b j hb => by rw [rcp_ne (by omega), hw _ _ (by omega)]) (b5.2.2.2.2.cg (funext fun _ => by rw [rcp_ne (by omega), hw _ _ (by omega)]) (funext fun _ => by rw [rcp_ne (by omega), hw _ _ (by omega)]) (funext fun _ => by rw [rcp_ne (by omega), hw _ _ (by omega)]))
  · rw [rcp_ne (by omega), hw _ _ (by omega)]
    exact b3 j hj
  · rw [rcp_in hj, hw _ _ (by omega)]
    exact b3 j hj
  · rw [rcp_ne (by omega), wi_hit]
  · rw [rcp_ne (by omega), hw _ _ (by omega)]
    exact b6
  · rw [rcp_ne (by omega), hw _ _ (by omega)]
    exact b7
