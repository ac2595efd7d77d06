/-! other, look -/
theorem fit_loop {x nn : Nat} {L : LN} {M N : Mem} (hI : Inv2 x L M N) (hn : NT x nn M N) : ∀ (m i fc fm n : Nat) (M1 N1 : Mem) (k7 : Int32), i + m = 199 → m < fc → m < fm → k7.toInt = (i : Int) - 99 → n ≤ i → GL x L M N M1 N1 → ST x n k7.toInt M1 N1 → ∃ n' M2 N2, lop2 fc (l_X2_findOthers_30 (x + 79) (x + 19) (M.2.2 0)) k7 M1 = some ((), M2) ∧ lop2 fm (l_X11_tellFits_20 (x + 95) (N.1 (x + 95 + 8) 27)) k7 N1 = some ((), N2) ∧ GL x L M N M2 N2 ∧ ST x n' 100 M2 N2 ∧ n' ≤ 199 := by
  have e99 : (99 : Int32).toInt = 99 := rfl
  have e1 : (1 : Int32).toInt = 1 := rfl
  intro m
  induction m with
  | zero =>
    intro i fc fm n M1 N1 k7 hi hc hf hk hni hG hS
    obtain ⟨fm, rfl⟩ : ∃ q, fm = q + 1 := ⟨fm - 1, by omega⟩
    obtain ⟨fc, rfl⟩ : ∃ q, fc = q + 1 := ⟨fc - 1, by omega⟩
    have h99 : (99 : Int32) < k7 := lt_of (by rw [e99]; omega)
    have h100 : k7.toInt = 100 := by omega
    refine ⟨n, M1, N1, lop2_inr (Wp.eq ?_), lop2_inr (Wp.eq ?_), hG, by rw [h100] at hS; exact hS, by omega⟩
    · unfold l_X2_findOthers_30
      exact Wp.ps h99 (Wp.ret rfl)
    · unfold l_X11_tellFits_20
      exact Wp.ps h99 (Wp.ret rfl)
  | succ m ih =>
    intro i fc fm n M1 N1 k7 hi hc hf hk hni hG hS
    obtain ⟨fm, rfl⟩ : ∃ q, fm = q + 1 := ⟨fm - 1, by omega⟩
    obtain ⟨fc, rfl⟩ : ∃ q, fc = q + 1 := ⟨fc - 1, by omega⟩
    obtain ⟨n', M2, N2, a1, a2, hG2, hS2, b1, b2⟩ := fit_step hI hn (show n ≤ 198 by omega) (by omega) hG hS
    have ti7 : (k7 + 1).toInt = k7.toInt + 1 := by rw [ti_add (by rw [e1]; omega) (by rw [e1]; omega), e1]
    rw [← ti7] at hS2
    obtain ⟨n2, M3, N3, r1, r2, r3⟩ := ih (i + 1) fc fm n' M2 N2 (k7 + 1) (by omega) (by omega) (by omega) (by rw [ti7]; omega) (by omega) hG2 hS2
    exact ⟨n2, M3, N3, (lop2_inl b1).trans r1, (lop2_inl b2).trans r2, r3⟩
theorem GL.begin {x : Nat} {L : LN} {M N N0 : Mem} (hI : Inv2 x L M N) (e : ∀ b k, ¬ (b = x + 95 ∧ k = 42) → N0.1 b k = N.1 b k) (e2 : N0.2 = N.2) : f_X11_rememberNow (x + 95) N0 = some ((), rcp N0 (x + 95 + 8) (x + 95 + 16) 665) ∧ GL x L M N M (rcp N0 (x + 95 + 8) (x + 95 + 16) 665) := by
  refine ⟨?_, FQ.rf, ⟨fun b k hb => by rw [rcp_ne (by omega)]; exact e _ _ (by omega), e2⟩, hI.2.2.2.1.cg (fun b k hb => by rw [rcp_ne (by omega)]; exact e _ _ (by omega)) (hI.2.2.2.1.2.2.2.2.cg (funext fun _ => by rw [rcp_ne (by omega)]; exact e _ _ (by omega)) (funext fun _ => by rw [rcp_ne (by omega)]; exact e _ _ (by omega)) (funext fun _ => by rw [rcp_ne (by omega)]; exact e _ _ (by omega))), fun j hj => by rw [rcp_in hj]; exact e _ _ (by omega), fun j hj => by rw [rcp_ne (by omega)]; exact e _ _ (by omega), ?_, ?_, ?_⟩
  · unfold f_X11_rememberNow
    rw [bd_eq (e_copyTo (by omega) (by decide))]
  · rw [rcp_ne (by omega), e _ _ (by omega)]; exact hI.2.2.2.2.2.2.1
  · rw [rcp_ne (by omega), e _ _ (by omega)]; exact hI.2.2.2.2.1
  · rw [rcp_ne (by omega), e _ _ (by omega)]; exact hI.2.2.2.2.2.1
theorem fits {x nn : Nat} {L : LN} {M N : Mem} (hI : Inv2 x L M N) (hn : NT x nn M N) : ∃ n M2 N2, f_X2_findOthers (x + 79) (x + 19) (M.2.2 0) M = some ((), M2) ∧ f_X11_tellFits (x + 95) N = some ((), N2) ∧ GL x L M N M2 N2 ∧ ST x n 100 M2 N2 ∧ n ≤ 199 := by
  obtain ⟨hr, hG⟩ := GL.begin (N0 := wi N (x + 95) 42 0) hI (fun b k hb => by simp only [wi]; rw [if_neg hb]) rfl
  generalize hN1 : rcp (wi N (x + 95) 42 0) (x + 95 + 8) (x + 95 + 16) 665 = N1 at hr hG
  have hf : ∀ b j, ¬ b = x + 79 → ¬ b = x + 93 → ¬ b = x + 94 → (afil (afil (wi (wi M (x + 79) 3 0) (x + 79) 4 100) (x + 93) 5 0) (x + 94) 645 0).1 b j = M.1 b j := fun b j h1 h2 h3 => by
    simp only [afil]
    rw [if_neg (by omega), if_neg (by omega), wi_rwo h1, wi_rwo h1]
  have v42 : N1.1 (x + 95) 42 = 0 := by rw [← hN1, rcp_ne (by omega), wi_hit]
  have v27 : N1.1 (x + 95 + 8) 27 = N.1 (x + 95 + 8) 27 := by rw [← hN1, rcp_ne (by omega), wi_rwo (by omega)]
  have hG1 : GL x L M N (afil (afil (wi (wi M (x + 79) 3 0) (x + 79) 4 100) (x + 93) 5 0) (x + 94) 645 0) N1 := hG.wr (fun b k hb => hf _ _ (by omega) (by omega) (by omega)) rfl (fun _ _ _ => rfl) rfl
  have hS : ST x 0 (-99) (afil (afil (wi (wi M (x + 79) 3 0) (x + 79) 4 100) (x + 93) 5 0) (x + 94) 645 0) N1 := by
    refine ⟨v42, ?_, ?_, fun h => absurd rfl h, fun c hc => ?_, fun c l hc hl => ?_⟩
    · simp only [afil]
      rw [if_neg (by omega), if_neg (by omega), wi_sl (by decide), wi_hit]
      rfl
    · simp only [afil]
      rw [if_neg (by omega), if_neg (by omega), wi_hit]
      rfl
    · simp only [afil]
      rw [if_neg (by omega), if_pos ⟨trivial, hc⟩]
      rfl
    · simp only [afil]
      rw [if_pos ⟨trivial, by omega⟩]
      exact ⟨fun _ q => by obtain ⟨j, a, _⟩ := q; omega, fun _ => rfl⟩
  obtain ⟨n, M2, N2, r1, r2, r3, r4, r5⟩ := fit_loop hI hn 199 0 FU FU 0 _ N1 (-99) (by omega) (by unfold FU; omega) (by unfold FU; omega) (by decide) (by omega) hG1 hS
  refine ⟨n, M2, N2, Wp.eq ?_, Wp.eq ?_, r3, r4, r5⟩
  · unfold f_X2_findOthers
    exact Wp.nam (Wp.nam (Wp.cl (e_fill _ (by decide)) (Wp.cl (e_fill _ (by decide)) ⟨_, r1, rfl⟩)))
  · unfold f_X11_tellFits
    refine Wp.nam (Wp.cl hr (Wp.nam ?_))
    rw [v27]
    exact ⟨_, r2, rfl⟩
theorem call_other {x : Nat} {L : LN} {M N0 N : Mem} {v : Int32} (h : Rdy x L M N0 N) : CallT x κ0 M N (f_X10_other x v M) (f_X11_other (x + 95) v N0) := by
  obtain ⟨hr, hI, hc0⟩ := h
  obtain ⟨nn, hn⟩ := hI.nt
  have e2 : (2 : Int32).toInt = 2 := rfl
  have e0 : (0 : Int32).toInt = 0 := rfl
  have l2 : (2 : Int64).toInt = 2 := rfl
  by_cases hv : 0 ≤ v.toInt ∧ v.toInt ≤ 2
  · by_cases h2 : v = 2
    · obtain ⟨hrm, hG⟩ := GL.begin (N0 := N) hI (fun _ _ _ => rfl) rfl
      generalize hN1 : rcp N (x + 95 + 8) (x + 95 + 16) 665 = N1 at hrm hG
      obtain ⟨T, hT, hC⟩ := hI.sc
      have g27 : M.1 (x + 19 + 1 + 1) 0 = N.1 (x + 95 + 8) 27 := hC.1.g27
      have hoff := hC.2.2.2.1
      unfold gF at hoff
      have v27 : N1.1 (x + 95 + 8) 27 = N.1 (x + 95 + 8) 27 := by rw [← hN1, rcp_ne (by omega)]
      obtain ⟨w, M2, N2, g1, g2, hG2, _, _, hw⟩ := try_off (a := 0) (v := N.1 (x + 95 + 8) 27) hI hn (by omega) ⟨hoff.2.2.2.2.2.1, hoff.2.2.2.2.2.2⟩ hG
      have hself : wi N1 (x + 95 + 8) 27 (N.1 (x + 95 + 8) 27) = N1 := by
        refine Mem.ext' (fun b j => ?_) rfl
        simp only [wi]
        by_cases e : b = x + 95 + 8 ∧ j = 27
        · rw [if_pos e, e.1, e.2, v27]
        · rw [if_neg e]
      rw [hself] at g2
      have hw01 : w = 0 ∨ w = 1 := hw.elim Or.inl (fun q => Or.inr q.1)
      refine (hG2.fin hI).t (v := w) hc0 (Wp.eq ?_) (Wp.eq ?_)
      · unfold f_X10_other
        refine Wp.j0 (Wp.ng (nlt_of (by rw [e0]; omega)) (Wp.ps (le_of (by rw [e2]; omega)) (Wp.ps h2 (Wp.gp hI.at ?_))))
        rw [g27]
        refine Wp.cl g1 (Wp.j1 ?_)
        rcases hw01 with e | e <;> subst e
        · exact Wp.ps rfl (Wp.ret rfl)
        · exact Wp.ng (by decide) (Wp.ret rfl)
      · unfold f_X11_other
        refine Wp.cl hr (Wp.cl (e_in1 (by rw [q0, l2]; omega)) (Wp.ng (by decide) (Wp.ps h2 (Wp.cl hrm (Wp.cl g2 (Wp.j1 ?_))))))
        rcases hw01 with e | e <;> subst e
        · exact Wp.ps rfl (Wp.ret rfl)
        · exact Wp.ng (by decide) (Wp.ret rfl)
    · obtain ⟨n, M2, N2, g1, g2, hG, hS, hn9⟩ := fits hI hn
      obtain ⟨s1, s2, s3, s4, s5, s6⟩ := hS
      refine (hG.fin hI).t (v := if v = 0 then N2.1 (x + 95) 42 else M2.1 (x + 79) 4) hc0 (Wp.eq ?_) (Wp.eq ?_)
      · unfold f_X10_other
        refine Wp.j0 (Wp.ng (nlt_of (by rw [e0]; omega)) (Wp.ps (le_of (by rw [e2]; omega)) (Wp.ng h2 (Wp.gp hI.at (Wp.cl g1 (Wp.j1 (Wp.br (fun g => Wp.ret ?_) (fun g => Wp.ret ?_))))))))
        · rw [if_pos g, s2, s1]
        · rw [if_neg g]
      · unfold f_X11_other
        refine Wp.cl hr (Wp.cl (e_in1 (by rw [q0, l2]; omega)) (Wp.ng (by decide) (Wp.ng h2 (Wp.cl g2 (Wp.j1 (Wp.br (fun g => Wp.ret ?_) (fun g => Wp.br (fun g3 => Wp.ret ?_) (fun g3 => Wp.ret ?_))))))))
        · rw [if_pos g]
        · have hn0 : n = 0 := by
            rw [s1] at g3
            have h1 := congrArg Int32.toInt g3
            rw [ti_nat (by omega), e0] at h1
            omega
          rw [if_neg g, s3, if_pos hn0]
        · have hn0 : ¬ n = 0 := fun q => by
            subst q
            exact g3 s1
          rw [if_neg g, s3, if_neg hn0]
  · refine CallT.err (e := 0) (k := 1) hI (Wp.eq ?_) (Wp.eq ?_) rfl
    · unfold f_X10_other
      refine Wp.j0 (Wp.br (fun _ => Wp.ret rfl) (fun g => Wp.ng (nle_of ?_) (Wp.ret rfl)))
      have := Int32.le_iff_toInt_le.mp (nlt_le.mp g)
      rw [e0] at this
      rw [e2]
      omega
    · unfold f_X11_other
      exact Wp.cl hr (Wp.cl (e_in0 (by rw [q0, l2]; omega)) (Wp.ps rfl (Wp.cl e_fail (Wp.ret rfl))))
/-- unlike looks are counted by the model -/
theorem unl_in {t n c k : Nat} {N : Mem} {a : Int32} (hk : k < n) (hn : n ≤ 199) (hc : c < 5) : ∀ (m j fu : Nat) (v : Int32), j + m = k → m < fu → (v = 1 ∧ (∀ i, i < j → ¬ N.1 (t + 21) (5 * i + c) = N.1 (t + 21) (5 * k + c))) ∨ (v = 0 ∧ ∃ i, i < k ∧ N.1 (t + 21) (5 * i + c) = N.1 (t + 21) (5 * k + c)) → lop2 fu (l_X11_unlikeAt_18 t (Int32.ofNat c) N a (Int32.ofNat k)) v (Int32.ofNat j) = some (.inl (a + (if ∃ i, i < k ∧ N.1 (t + 21) (5 * i + c) = N.1 (t + 21) (5 * k + c) then 0 else 1), Int32.ofNat (k + 1))) := by
  intro m
  induction m with
  | zero =>
    intro j fu v hj hf hv
    obtain ⟨fu, rfl⟩ : ∃ q, fu = q + 1 := ⟨fu - 1, by omega⟩
    obtain rfl : j = k := by omega
    refine lop2_inr (Wp.eq ?_)
    unfold l_X11_unlikeAt_18
    refine Wp.j0 (Wp.ps ((i_le (by omega) (by omega)).mpr (Nat.le_refl _)) (Wp.j1 ?_))
    rcases hv with ⟨h1, h2⟩ | ⟨h1, h2⟩ <;> subst h1
    · refine Wp.ng (by decide) (Wp.nam (Wp.nam ?_))
      rw [i_ad1, if_neg (fun q => by obtain ⟨i, a, b⟩ := q; exact h2 i a b)]
      exact Wp.ret rfl
    · refine Wp.ps rfl (Wp.nam (Wp.nam ?_))
      rw [i_ad1, if_pos h2]
      exact Wp.ret rfl
  | succ m ih =>
    intro j fu v hj hf hv
    obtain ⟨fu, rfl⟩ : ∃ q, fu = q + 1 := ⟨fu - 1, by omega⟩
    have hlt : ¬ Int32.ofNat k ≤ Int32.ofNat j := fun g => by
      have := (i_le (by omega) (by omega)).mp g
      omega
    rcases hv with ⟨h1, h2⟩ | ⟨h1, h2⟩ <;> subst h1
    · have ej : (5 : Int32) * Int32.ofNat j + Int32.ofNat c = Int32.ofNat (5 * j + c) := i_lin (c := 5)
      have ek : (5 : Int32) * Int32.ofNat k + Int32.ofNat c = Int32.ofNat (5 * k + c) := i_lin (c := 5)
      have b1 : l_X11_unlikeAt_18 t (Int32.ofNat c) N a (Int32.ofNat k) 1 (Int32.ofNat j) = some (.inl ((if N.1 (t + 21) (5 * j + c) = N.1 (t + 21) (5 * k + c) then 0 else 1), Int32.ofNat (j + 1))) := by
        refine Wp.eq ?_
        unfold l_X11_unlikeAt_18
        rw [ej, ek]
        refine Wp.j0 (Wp.ng hlt (Wp.ng (by decide) (Wp.gi (i_rng (by omega) (by decide)) (Wp.gi (i_rng (by omega) (by decide)) (Wp.j1 ?_)))))
        rw [i_nn (by omega), i_nn (by omega)]
        by_cases g : N.1 (t + 21) (5 * j + c) = N.1 (t + 21) (5 * k + c)
        · refine Wp.ps g (Wp.nam ?_)
          rw [i_ad1, if_pos g]
          exact Wp.ret rfl
        · refine Wp.ng g (Wp.nam ?_)
          rw [i_ad1, if_neg g]
          exact Wp.ret rfl
      refine (lop2_inl b1).trans (ih (j + 1) fu _ (by omega) (by omega) ?_)
      by_cases g : N.1 (t + 21) (5 * j + c) = N.1 (t + 21) (5 * k + c)
      · rw [if_pos g]
        exact Or.inr ⟨rfl, j, by omega, g⟩
      · rw [if_neg g]
        refine Or.inl ⟨rfl, fun i hi => ?_⟩
        by_cases e : i = j
        · rw [e]; exact g
        · exact h2 i (by omega)
    · refine lop2_inr (Wp.eq ?_)
      unfold l_X11_unlikeAt_18
      refine Wp.j0 (Wp.ng hlt (Wp.ps rfl (Wp.j1 (Wp.ps rfl (Wp.nam (Wp.nam ?_))))))
      rw [i_ad1, if_pos h2]
      exact Wp.ret rfl
theorem unl_out {t n c : Nat} {N : Mem} (h42 : N.1 t 42 = Int32.ofNat n) (hn : n ≤ 199) (hc : c < 5) : ∀ (m k fu : Nat), k + m = n → m < fu → lop2 fu (l_X11_unlikeAt_4 t (Int32.ofNat c) N) (Int32.ofNat (dct (N.1 (t + 21)) c k)) (Int32.ofNat k) = some (Int32.ofNat (dct (N.1 (t + 21)) c n), N) := by
  intro m
  induction m with
  | zero =>
    intro k fu hk hf
    obtain ⟨fu, rfl⟩ : ∃ q, fu = q + 1 := ⟨fu - 1, by omega⟩
    obtain rfl : k = n := by omega
    refine lop2_inr (Wp.eq ?_)
    unfold l_X11_unlikeAt_4
    rw [h42]
    exact Wp.ps ((i_le (by omega) (by omega)).mpr (Nat.le_refl _)) (Wp.ret rfl)
  | succ m ih =>
    intro k fu hk hf
    obtain ⟨fu, rfl⟩ : ∃ q, fu = q + 1 := ⟨fu - 1, by omega⟩
    have b1 : l_X11_unlikeAt_4 t (Int32.ofNat c) N (Int32.ofNat (dct (N.1 (t + 21)) c k)) (Int32.ofNat k) = some (.inl (Int32.ofNat (dct (N.1 (t + 21)) c (k + 1)), Int32.ofNat (k + 1))) := by
      refine Wp.eq ?_
      unfold l_X11_unlikeAt_4
      rw [h42]
      refine Wp.ng (fun g => by have := (i_le (by omega) (by omega)).mp g; omega) ?_
      have := unl_in (t := t) (N := N) (a := Int32.ofNat (dct (N.1 (t + 21)) c k)) (show k < n by omega) hn hc k 0 FU 1 (by omega) (by unfold FU; omega) (Or.inl ⟨rfl, fun i hi => by omega⟩)
      refine ⟨_, this, ?_⟩
      rw [dct_s]
      by_cases g : ∃ i, i < k ∧ N.1 (t + 21) (5 * i + c) = N.1 (t + 21) (5 * k + c)
      · rw [if_pos g, if_pos g]
        have : Int32.ofNat (dct (N.1 (t + 21)) c k) + 0 = Int32.ofNat (dct (N.1 (t + 21)) c k) := Int32.add_zero _
        rw [this]
        rfl
      · rw [if_neg g, if_neg g, i_ad1]
    exact (lop2_inl b1).trans (ih (k + 1) fu (by omega) (by omega))
theorem e_unlike {t n c : Nat} {N : Mem} (h42 : N.1 t 42 = Int32.ofNat n) (hn : n ≤ 199) (hc : c < 5) : f_X11_unlikeAt t (Int32.ofNat c) N = some (Int32.ofNat (dct (N.1 (t + 21)) c n), N) := unl_out h42 hn hc n 0 FU (by omega) (by unfold FU; omega)
/-- which look: best and how many, alike -/
theorem look_loop {x n : Nat} {N : Mem} {v : Int32} (h42 : N.1 (x + 95) 42 = Int32.ofNat n) (hn : n ≤ 199) : ∀ (m c fc fm : Nat) (a b : Int32) (M1 : Mem), c + m = 5 → m < fc → m < fm → M1.1 (x + 79) 1 = a → M1.1 (x + 79) 2 = b → (∀ c, c < 5 → M1.1 (x + 93) c = Int32.ofNat (dct (N.1 (x + 95 + 21)) c n)) → ∃ a' b' M2, lop2 fc (l_X2_findLook_12 (x + 79)) (Int32.ofNat c) M1 = some ((), M2) ∧ lop4 fm (l_X11_look_31 (x + 95) v) a b (Int32.ofNat c) N = some (if v = 0 then a' else b', N) ∧ M2.1 (x + 79) 1 = a' ∧ M2.1 (x + 79) 2 = b' ∧ (∀ d k, ¬ d = x + 79 → M2.1 d k = M1.1 d k) ∧ M2.2 = M1.2 := by
  intro m
  induction m with
  | zero =>
    intro c fc fm a b M1 hc h1 h2 ha hb hd
    obtain ⟨fm, rfl⟩ : ∃ q, fm = q + 1 := ⟨fm - 1, by omega⟩
    obtain ⟨fc, rfl⟩ : ∃ q, fc = q + 1 := ⟨fc - 1, by omega⟩
    obtain rfl : c = 5 := by omega
    refine ⟨a, b, M1, lop2_inr (Wp.eq ?_), lop4_inr' (Wp.eq ?_), ha, hb, fun _ _ _ => rfl, rfl⟩
    · unfold l_X2_findLook_12
      exact Wp.ps (by decide) (Wp.ret rfl)
    · unfold l_X11_look_31
      refine Wp.ps (by decide) (Wp.j1 (Wp.br (fun g => Wp.ret ?_) (fun g => Wp.ret ?_)))
      · rw [if_pos g]
      · rw [if_neg g]
  | succ m ih =>
    intro c fc fm a b M1 hc h1 h2 ha hb hd
    obtain ⟨fm, rfl⟩ : ∃ q, fm = q + 1 := ⟨fm - 1, by omega⟩
    obtain ⟨fc, rfl⟩ : ∃ q, fc = q + 1 := ⟨fc - 1, by omega⟩
    have i5 : ¬ (5 : Int32) ≤ Int32.ofNat c := fun g => by
      have := (i_le (a := 5) (b := c) (by omega) (by omega)).mp g
      omega
    have hu := e_unlike h42 hn (show c < 5 by omega)
    have hdc := hd c (by omega)
    generalize Int32.ofNat (dct (N.1 (x + 95 + 21)) c n) = u at hu hdc
    by_cases g : b < u
    · have c1 : (wi M1 (x + 79) 1 ((10 : Int32) * Int32.ofNat (c + 1))).1 (x + 79 + 14) c = u := by rw [wi_rwo (by omega)]; exact hdc
      have b1 : l_X2_findLook_12 (x + 79) (Int32.ofNat c) M1 = some (.inl (Int32.ofNat (c + 1), wi (wi M1 (x + 79) 1 ((10 : Int32) * Int32.ofNat (c + 1))) (x + 79) 2 u)) := by
        refine Wp.eq ?_
        unfold l_X2_findLook_12
        refine Wp.ng i5 (Wp.cl (at_nat (by omega) (by decide)) (Wp.j1 ?_))
        have e1 : M1.1 (x + 79 + 14) c = u := hdc
        rw [e1, hb, i_ad1]
        refine Wp.ng (fun q => nlt_le.mpr q g) (Wp.nam (Wp.cl (at_nat (by omega) (by decide)) ?_))
        rw [c1]
        refine Wp.nam (Wp.nam ?_)
        exact Wp.ret rfl
      have b2 : l_X11_look_31 (x + 95) v a b (Int32.ofNat c) N = some (.inl ((10 : Int32) * Int32.ofNat (c + 1), u, Int32.ofNat (c + 1), N)) := by
        refine Wp.eq ?_
        unfold l_X11_look_31
        rw [i_ad1]
        exact Wp.ng i5 (Wp.cl hu (Wp.j2 (Wp.ps g (Wp.nam (Wp.nam (Wp.ret rfl))))))
      obtain ⟨a', b', M2, r1, r2, r3, r4, r5, r6⟩ := ih (c + 1) fc fm ((10 : Int32) * Int32.ofNat (c + 1)) u (wi (wi M1 (x + 79) 1 ((10 : Int32) * Int32.ofNat (c + 1))) (x + 79) 2 u) (by omega) (by omega) (by omega) (by rw [wi_sl (by decide), wi_hit]) wi_hit (fun d hd' => by rw [wi_rwo (by omega), wi_rwo (by omega)]; exact hd d hd')
      exact ⟨a', b', M2, (lop2_inl b1).trans r1, (lop4_inl' b2).trans r2, r3, r4, fun d k hdk => by rw [r5 d k hdk, wi_rwo hdk, wi_rwo hdk], r6⟩
    · have b1 : l_X2_findLook_12 (x + 79) (Int32.ofNat c) M1 = some (.inl (Int32.ofNat (c + 1), M1)) := by
        refine Wp.eq ?_
        unfold l_X2_findLook_12
        refine Wp.ng i5 (Wp.cl (at_nat (by omega) (by decide)) (Wp.j1 ?_))
        have e1 : M1.1 (x + 79 + 14) c = u := hdc
        rw [e1, hb, i_ad1]
        exact Wp.ps (nlt_le.mp g) (Wp.nam (Wp.ret rfl))
      have b2 : l_X11_look_31 (x + 95) v a b (Int32.ofNat c) N = some (.inl (a, b, Int32.ofNat (c + 1), N)) := by
        refine Wp.eq ?_
        unfold l_X11_look_31
        rw [i_ad1]
        exact Wp.ng i5 (Wp.cl hu (Wp.j2 (Wp.ng g (Wp.nam (Wp.ret rfl)))))
      obtain ⟨a', b', M2, r1, r2, r3⟩ := ih (c + 1) fc fm a b M1 (by omega) (by omega) (by omega) ha hb hd
      exact ⟨a', b', M2, (lop2_inl b1).trans r1, (lop4_inl' b2).trans r2, r3⟩
theorem call_look {x : Nat} {L : LN} {M N0 N : Mem} {v : Int32} (h : Rdy x L M N0 N) : CallT x κ0 M N (f_X10_look x v M) (f_X11_look (x + 95) v N0) := by
  obtain ⟨hr, hI, hc0⟩ := h
  obtain ⟨nn, hn⟩ := hI.nt
  have e1 : (1 : Int32).toInt = 1 := rfl
  have e0 : (0 : Int32).toInt = 0 := rfl
  have l1 : (1 : Int64).toInt = 1 := rfl
  by_cases hv : 0 ≤ v.toInt ∧ v.toInt ≤ 1
  · obtain ⟨n, M2, N2, g1, g2, hG, hS, hn9⟩ := fits hI hn
    obtain ⟨s1, s2, s3, s4, s5, s6⟩ := hS
    obtain ⟨a', b', M3, r1, r2, r3, r4, r5, r6⟩ := look_loop (x := x) (v := v) s1 hn9 5 0 FU FU (-1) 0 (wi (wi M2 (x + 79) 1 (-1)) (x + 79) 2 0) (by omega) (by unfold FU; omega) (by unfold FU; omega) (by rw [wi_sl (by decide), wi_hit]) wi_hit (fun c hc => by rw [wi_rwo (by omega), wi_rwo (by omega)]; exact s5 c hc)
    have hG3 : GL x L M N M3 N2 := hG.wr (fun b k hb => by rw [r5 _ _ (by omega), wi_rwo (by omega), wi_rwo (by omega)]) r6 (fun _ _ _ => rfl) rfl
    refine (hG3.fin hI).t (v := if v = 0 then a' else b') hc0 (Wp.eq ?_) (Wp.eq ?_)
    · unfold f_X10_look
      refine Wp.j0 (Wp.ng (nlt_of (by rw [e0]; omega)) (Wp.ps (le_of (by rw [e1]; omega)) (Wp.gp hI.at (Wp.cl g1 ?_))))
      have hfl : f_X2_findLook (x + 79) M2 = some ((), M3) := by
        refine Wp.eq ?_
        unfold f_X2_findLook
        exact Wp.nam (Wp.nam ⟨_, r1, rfl⟩)
      refine Wp.cl hfl (Wp.j1 (Wp.br (fun g => Wp.ret ?_) (fun g => Wp.ret ?_)))
      · rw [if_pos g, r3]
      · rw [if_neg g, r4]
    · unfold f_X11_look
      exact Wp.cl hr (Wp.cl (e_in1 (by rw [q0, l1]; omega)) (Wp.ng (by decide) (Wp.cl g2 ⟨_, r2, rfl⟩)))
  · refine CallT.err (e := 0) (k := 1) hI (Wp.eq ?_) (Wp.eq ?_) rfl
    · unfold f_X10_look
      refine Wp.j0 (Wp.br (fun _ => Wp.ret rfl) (fun g => Wp.ng (nle_of ?_) (Wp.ret rfl)))
      have := Int32.le_iff_toInt_le.mp (nlt_le.mp g)
      rw [e0] at this
      rw [e1]
      omega
    · unfold f_X11_look
      exact Wp.cl hr (Wp.cl (e_in0 (by rw [q0, l1]; omega)) (Wp.ps rfl (Wp.cl e_fail (Wp.ret rfl))))
