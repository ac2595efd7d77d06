/-! Offsets tried, one by one -/
def GL (x : Nat) (L : LN) (M N M1 N1 : Mem) : Prop := FQ x M M1 ∧ GR x N N1 ∧ EnvM (x + 95) N1 L ∧ (∀ j, j < 665 → N1.1 (x + 95 + 16) j = N.1 (x + 95 + 8) j) ∧ (∀ j, j < 665 → N1.1 (x + 95 + 8) j = N.1 (x + 95 + 8) j) ∧ N1.1 (x + 95) 29 = 0 ∧ N1.1 (x + 95) 24 = L.1 2 ∧ N1.1 (x + 95) 25 = L.1 3
theorem GL.fin {x : Nat} {L : LN} {M N M1 N1 : Mem} (h : GL x L M N M1 N1) (hI : Inv2 x L M N) : Fin x L M N M1 N1 := by
  obtain ⟨a1, a2, a3, a4, a5, a6, a7, a8⟩ := h
  have hq : GQ x N N1 := a2.gq a5 (by rw [a7, hI.2.2.2.2.1]) (by rw [a8, hI.2.2.2.2.2.1]) (by rw [a6, hI.2.2.2.2.2.2.1])
  exact ⟨hI.q a1 hq a3.2.2.2.2, a1, hq, a2.1 _ _ (by omega)⟩
theorem GL.wr {x : Nat} {L : LN} {M N M1 N1 M2 N2 : Mem} (h : GL x L M N M1 N1) (eM : ∀ b k, ¬ (b = x + 79 ∨ (x + 92 ≤ b ∧ b < x + 95)) → M2.1 b k = M1.1 b k) (eM2 : M2.2 = M1.2) (e : ∀ b k, ¬ (b = x + 95 + 17 ∨ b = x + 95 + 20 ∨ b = x + 95 + 21 ∨ (b = x + 95 ∧ (k = 36 ∨ k = 37 ∨ k = 42 ∨ k = 43))) → N2.1 b k = N1.1 b k) (e2 : N2.2 = N1.2) : GL x L M N M2 N2 := by
  obtain ⟨a1, a2, a3, a4, a5, a6, a7, a8⟩ := h
  exact ⟨⟨fun b k hb => by rw [eM _ _ (by omega)]; exact a1.1 b k hb, by rw [eM2]; exact a1.2⟩, ⟨fun b k hb => by rw [e _ _ (by omega)]; exact a2.1 b k hb, by rw [e2]; exact a2.2⟩, a3.cg (fun b k hb => e _ _ (by omega)) (a3.2.2.2.2.cg (funext fun _ => e _ _ (by omega)) (funext fun _ => e _ _ (by omega)) (funext fun _ => e _ _ (by omega))), fun j hj => by rw [e _ _ (by omega)]; exact a4 j hj, fun j hj => by rw [e _ _ (by omega)]; exact a5 j hj, by rw [e _ _ (by omega)]; exact a6, by rw [e _ _ (by omega)]; exact a7, by rw [e _ _ (by omega)]; exact a8⟩
theorem try_off {x a nn : Nat} {L : LN} {M N M1 N1 : Mem} {v : Int32} (hI : Inv2 x L M N) (hn : NT x nn M N) (ha : a ≤ 198) (hv : -99 ≤ v.toInt ∧ v.toInt ≤ 99) (h : GL x L M N M1 N1) : ∃ w M2 N2, f_X2_agrees (x + 79) (x + 19) (M.2.2 0) v M1 = some (w, M2) ∧ f_X11_isAsNoted (x + 95) (Int32.ofNat a) (wi N1 (x + 95 + 8) 27 v) = some (w, N2) ∧ GL x L M N M2 N2 ∧ frC x M1 M2 ∧ frN x a N1 N2 ∧ (w = 0 ∨ (w = 1 ∧ LKs x a 61 M2 N2)) := by
  obtain ⟨a1, a2, a3, a4, a5, a6, a7, a8⟩ := h
  obtain ⟨T, hT⟩ := hI.w0
  obtain ⟨M2, e1, _, r1, fM2⟩ := QR.again hI a1 a2 a4 a3 a5 a6 hT
  have q := (r1 a7 a8).set (v := v) (d := 1) (k := 0) (j := 27) hI.at (by omega) (Or.inr (Or.inr (Or.inl ⟨rfl, rfl, rfl⟩))) (fun _ => hv)
  obtain ⟨w, M3, M4, N4, T4, g1, g2, q4, s4, fN, fq, fC, hl⟩ := as_loop hI hn ha 61 0 FU FU _ _ T (by omega) (by unfold FU; omega) (by unfold FU; omega) hT.1 (by have := hT.2.1; omega) q (by rw [wi_rwo (by omega)]; exact a6) (fun c _ h => absurd h (by omega))
  obtain ⟨k1, k2, k3, k4⟩ := q4.back (v := w)
  refine ⟨w, M3, _, ?_, g2, ⟨fq, k2, k4, fun j hj => by rw [rcp_ne (by omega)]; exact q4.2.2.1 j hj, k3, by rw [rcp_ne (by omega)]; exact s4, by rw [rcp_ne (by omega)]; exact q4.2.2.2.2.2.1, by rw [rcp_ne (by omega)]; exact q4.2.2.2.2.2.2.1⟩, fun b j hb => ?_, fun b j b1 b2 b3 b4 => ?_, ?_⟩
  · refine Wp.eq ?_
    unfold f_X2_agrees
    exact Wp.cl e1 (Wp.nam ⟨_, g1, rfl⟩)
  · rw [fC _ _ hb, wi_rwo (by omega), fM2 _ _ (by omega)]
  · rw [rcp_ne b1, fN _ _ b1 b2 b3 b4, wi_rwo (by omega)]
  · rcases hl with g | ⟨g, hl⟩
    · exact Or.inl g
    · refine Or.inr ⟨g, fun c hc hk => ?_⟩
      rw [rcp_ne (by omega)]
      exact hl c hc hk
/-- how many unlike ones stand in a column -/
def dct (h : Nat → Int32) (c : Nat) : Nat → Nat
  | 0 => 0
  | n + 1 => dct h c n + (if ∃ j, j < n ∧ h (5 * j + c) = h (5 * n + c) then 0 else 1)
theorem dct_s {h : Nat → Int32} {c n : Nat} : dct h c (n + 1) = dct h c n + (if ∃ j, j < n ∧ h (5 * j + c) = h (5 * n + c) then 0 else 1) := rfl
theorem dct_le {h : Nat → Int32} {c : Nat} : ∀ n, dct h c n ≤ n
  | 0 => Nat.le_refl _
  | n + 1 => by
    have := dct_le (h := h) (c := c) n
    unfold dct
    split <;> omega
theorem dct_cg {h h' : Nat → Int32} {c : Nat} : ∀ n, (∀ j, j < n → h' (5 * j + c) = h (5 * j + c)) → dct h' c n = dct h c n
  | 0, _ => rfl
  | n + 1, e => by
    unfold dct
    rw [dct_cg n (fun j hj => e j (by omega)), e n (by omega)]
    have : (∃ j, j < n ∧ h' (5 * j + c) = h (5 * n + c)) ↔ (∃ j, j < n ∧ h (5 * j + c) = h (5 * n + c)) := by
      constructor
      · rintro ⟨j, a, b⟩
        exact ⟨j, a, by rw [← e j (by omega)]; exact b⟩
      · rintro ⟨j, a, b⟩
        exact ⟨j, a, by rw [e j (by omega)]; exact b⟩
    simp only [this]
/-- a look is seen -/
def see1 (x c u : Nat) (M : Mem) : Mem := if M.1 (x + 94) (129 * c + u) = 0 then wi (wi M (x + 94) (129 * c + u) 1) (x + 93) c (M.1 (x + 93) c + 1) else M
def sees (x : Nat) (lk : Nat → Nat) : Nat → Mem → Mem
  | 0, M => M
  | k + 1, M => see1 x k (lk k) (sees x lk k M)
theorem sees_o {x : Nat} {lk : Nat → Nat} {M : Mem} {b j : Nat} (h : ¬ (b = x + 93 ∨ b = x + 94)) : ∀ k, (sees x lk k M).1 b j = M.1 b j
  | 0 => rfl
  | k + 1 => by
    unfold sees see1
    split
    · rw [wi_rwo (by omega), wi_rwo (by omega)]
      exact sees_o h k
    · exact sees_o h k
theorem sees_2 {x : Nat} {lk : Nat → Nat} {M : Mem} : ∀ k, (sees x lk k M).2 = M.2
  | 0 => rfl
  | k + 1 => by
    unfold sees see1
    split
    · exact sees_2 k
    · exact sees_2 k
theorem sees_94 {x : Nat} {lk : Nat → Nat} {M : Mem} {c l : Nat} (hl : l ≤ 128) (hlk : ∀ c, c < 5 → lk c ≤ 128) : ∀ k, k ≤ 5 → (sees x lk k M).1 (x + 94) (129 * c + l) = if c < k ∧ l = lk c ∧ M.1 (x + 94) (129 * c + l) = 0 then 1 else M.1 (x + 94) (129 * c + l)
  | 0, _ => by rw [if_neg (by omega)]; rfl
  | k + 1, hk => by
    have ih := sees_94 (x := x) (lk := lk) (M := M) (c := c) hl hlk k (by omega)
    have hlkk := hlk k (by omega)
    unfold sees see1
    by_cases e : c = k ∧ l = lk c
    · obtain ⟨e1, e2⟩ := e
      subst e1 e2
      rw [if_neg (by omega)] at ih
      by_cases g : (sees x lk c M).1 (x + 94) (129 * c + lk c) = 0
      · rw [if_pos g, wi_rwo (by omega), wi_hit, if_pos ⟨by omega, rfl, by rw [← ih]; exact g⟩]
      · rw [if_neg g, if_neg (fun q => g (by rw [ih]; exact q.2.2)), ih]
    · have hc : (c < k ∧ l = lk c ∧ M.1 (x + 94) (129 * c + l) = 0) ↔ (c < k + 1 ∧ l = lk c ∧ M.1 (x + 94) (129 * c + l) = 0) := by
        constructor
        · exact fun q => ⟨by omega, q.2⟩
        · exact fun q => ⟨by omega, q.2⟩
      simp only [hc] at ih
      by_cases g : (sees x lk k M).1 (x + 94) (129 * k + lk k) = 0
      · have hne : ¬ 129 * c + l = 129 * k + lk k := fun q => e (by
          have hck : c = k := by omega
          subst hck
          exact ⟨rfl, by omega⟩)
        rw [if_pos g, wi_rwo (by omega), wi_sl hne, ih]
      · rw [if_neg g, ih]
theorem sees_93 {x : Nat} {lk : Nat → Nat} {M : Mem} {c : Nat} (hlk : ∀ c, c < 5 → lk c ≤ 128) : ∀ k, k ≤ 5 → (sees x lk k M).1 (x + 93) c = if c < k ∧ M.1 (x + 94) (129 * c + lk c) = 0 then M.1 (x + 93) c + 1 else M.1 (x + 93) c
  | 0, _ => by rw [if_neg (by omega)]; rfl
  | k + 1, hk => by
    have ih := sees_93 (x := x) (M := M) (c := c) hlk k (by omega)
    have hlkk := hlk k (by omega)
    have i94 := sees_94 (x := x) (M := M) (c := k) hlkk hlk k (by omega)
    rw [if_neg (by omega)] at i94
    unfold sees see1
    rw [i94]
    by_cases e : c = k
    · subst e
      rw [if_neg (by omega)] at ih
      by_cases g : M.1 (x + 94) (129 * c + lk c) = 0
      · rw [if_pos g, wi_hit, if_pos ⟨by omega, g⟩, ih]
      · rw [if_neg g, if_neg (fun q => g q.2), ih]
    · have hc : (c < k ∧ M.1 (x + 94) (129 * c + lk c) = 0) ↔ (c < k + 1 ∧ M.1 (x + 94) (129 * c + lk c) = 0) := by
        constructor
        · exact fun q => ⟨by omega, q.2⟩
        · exact fun q => ⟨by omega, q.2⟩
      simp only [hc] at ih
      by_cases g : M.1 (x + 94) (129 * k + lk k) = 0
      · rw [if_pos g, wi_sl e, wi_rwo (by omega), ih]
      · rw [if_neg g, ih]
theorem see_loop {x : Nat} {lk : Nat → Nat} {M : Mem} (hlk : ∀ c, c < 5 → lk c ≤ 128) (hl : ∀ c, c < 5 → M.1 (x + 92) c = Int32.ofNat (lk c)) : ∀ (m k fu : Nat), k + m = 5 → m < fu → lop2 fu (l_X2_seeLooks_2 (x + 79)) (Int32.ofNat k) (sees x lk k M) = some ((), sees x lk 5 M) := by
  intro m
  induction m with
  | zero =>
    intro k fu hk hf
    obtain ⟨fu, rfl⟩ : ∃ q, fu = q + 1 := ⟨fu - 1, by omega⟩
    obtain rfl : k = 5 := by omega
    refine lop2_inr (Wp.eq ?_)
    unfold l_X2_seeLooks_2
    exact Wp.ps (by decide) (Wp.ret rfl)
  | succ m ih =>
    intro k fu hk hf
    obtain ⟨fu, rfl⟩ : ∃ q, fu = q + 1 := ⟨fu - 1, by omega⟩
    have hlkk := hlk k (by omega)
    have v92 : (sees x lk k M).1 (x + 79 + 13) k = Int32.ofNat (lk k) := by rw [sees_o (by omega)]; exact hl k (by omega)
    have b1 : l_X2_seeLooks_2 (x + 79) (Int32.ofNat k) (sees x lk k M) = some (.inl (Int32.ofNat (k + 1), sees x lk (k + 1) M)) := by
      refine Wp.eq ?_
      unfold l_X2_seeLooks_2
      refine Wp.ng (fun g => by have := (i_le (a := 5) (b := k) (by omega) (by omega)).mp g; omega) ?_
      refine Wp.cl (at_nat (by omega) (by decide)) (Wp.nam ?_)
      have e1 : Int32.ofNat k * 129 + (sees x lk k M).1 (x + 79 + 13) k = Int32.ofNat (129 * k + lk k) := by
        rw [v92]
        have : Int32.ofNat k * 129 = 129 * Int32.ofNat k := Int32.mul_comm _ _
        rw [this]
        exact i_lin (c := 129)
      rw [e1]
      refine Wp.cl (at_nat (by omega) (by decide)) (Wp.j1 (Wp.br (fun g => ?_) (fun g => ?_)))
      · refine Wp.cl (put_nat (by omega) (by decide)) (Wp.cl (at_nat (by omega) (by decide)) (Wp.cl (put_nat (by omega) (by decide)) (Wp.nam ?_)))
        rw [i_ad1]
        refine Wp.ret ?_
        have e2 : sees x lk (k + 1) M = wi (wi (sees x lk k M) (x + 94) (129 * k + lk k) 1) (x + 93) k ((sees x lk k M).1 (x + 93) k + 1) := if_pos g
        rw [e2, wi_rwo (by omega)]
      · refine Wp.nam ?_
        rw [i_ad1]
        refine Wp.ret ?_
        have e2 : sees x lk (k + 1) M = sees x lk k M := if_neg g
        rw [e2]
    exact (lop2_inl b1).trans (ih (k + 1) fu (by omega) (by omega))
/-- what the class and the model have gathered of the offsets tried: n fit, all below o -/
def ST (x n : Nat) (o : Int) (M1 N1 : Mem) : Prop := N1.1 (x + 95) 42 = Int32.ofNat n ∧ M1.1 (x + 79) 3 = Int32.ofNat n ∧ M1.1 (x + 79) 4 = (if n = 0 then 100 else N1.1 (x + 95 + 20) 0) ∧ (¬ n = 0 → (N1.1 (x + 95 + 20) 0).toInt < o) ∧ (∀ c, c < 5 → M1.1 (x + 93) c = Int32.ofNat (dct (N1.1 (x + 95 + 21)) c n)) ∧ (∀ c l, c < 5 → l ≤ 128 → (M1.1 (x + 94) (129 * c + l) = 0 ↔ ¬ ∃ j, j < n ∧ N1.1 (x + 95 + 21) (5 * j + c) = Int32.ofNat l))
theorem fit_step {x n nn : Nat} {L : LN} {M N M1 N1 : Mem} {k7 : Int32} (hI : Inv2 x L M N) (hn : NT x nn M N) (hn8 : n ≤ 198) (hv : -99 ≤ k7.toInt ∧ k7.toInt ≤ 99) (h : GL x L M N M1 N1) (hS : ST x n k7.toInt M1 N1) : ∃ n' M2 N2, n ≤ n' ∧ n' ≤ n + 1 ∧ GL x L M N M2 N2 ∧ ST x n' (k7.toInt + 1) M2 N2 ∧ l_X2_findOthers_30 (x + 79) (x + 19) (M.2.2 0) k7 M1 = some (.inl (k7 + 1, M2)) ∧ l_X11_tellFits_20 (x + 95) (N.1 (x + 95 + 8) 27) k7 N1 = some (.inl (k7 + 1, N2)) := by
  have e99 : (99 : Int32).toInt = 99 := rfl
  have n99 : ¬ (99 : Int32) < k7 := nlt_of (by rw [e99]; omega)
  have g27 : M1.1 (x + 19 + 1 + 1) 0 = N.1 (x + 95 + 8) 27 := by
    rw [h.1.1 _ _ (by omega)]
    obtain ⟨T, hT, hC⟩ := hI.sc
    exact hC.1.g27
  obtain ⟨s1, s2, s3, s4, s5, s6⟩ := hS
  by_cases hk : k7 = N.1 (x + 95 + 8) 27
  · refine ⟨n, M1, N1, Nat.le_refl _, by omega, h, ⟨s1, s2, s3, fun g => by have := s4 g; omega, s5, s6⟩, Wp.eq ?_, Wp.eq ?_⟩
    · unfold l_X2_findOthers_30
      rw [g27]
      exact Wp.ng n99 (Wp.j1 (Wp.ps hk (Wp.nam (Wp.ret rfl))))
    · unfold l_X11_tellFits_20
      exact Wp.ng n99 (Wp.j1 (Wp.ps hk (Wp.nam (Wp.ret rfl))))
  · obtain ⟨w, M2, N2, g1, g2, hG, fC, fN, hw⟩ := try_off hI hn hn8 hv h
    have v42 : (wi N1 (x + 95 + 8) 27 k7).1 (x + 95) 42 = Int32.ofNat n := by rw [wi_rwo (by omega)]; exact s1
    have w42 : N2.1 (x + 95) 42 = Int32.ofNat n := by rw [fN _ _ (by omega) (by omega) (by omega) (by omega)]; exact s1
    have w20 : N2.1 (x + 95 + 20) 0 = N1.1 (x + 95 + 20) 0 := fN _ _ (by omega) (by omega) (by omega) (by omega)
    have w21 : ∀ c j, c < 5 → j < n → N2.1 (x + 95 + 21) (5 * j + c) = N1.1 (x + 95 + 21) (5 * j + c) := fun c j hc hj => fN _ _ (by omega) (by omega) (by omega) (by omega)
    have u3 : M2.1 (x + 79) 3 = Int32.ofNat n := by rw [fC _ _ (by omega)]; exact s2
    have u4 : M2.1 (x + 79) 4 = (if n = 0 then 100 else N2.1 (x + 95 + 20) 0) := by rw [fC _ _ (by omega), w20]; exact s3
    have u5 : ∀ c, c < 5 → M2.1 (x + 93) c = Int32.ofNat (dct (N2.1 (x + 95 + 21)) c n) := fun c hc => by
      rw [fC _ _ (by omega), dct_cg n (fun j hj => w21 c j hc hj)]
      exact s5 c hc
    have u6 : ∀ c l, c < 5 → l ≤ 128 → (M2.1 (x + 94) (129 * c + l) = 0 ↔ ¬ ∃ j, j < n ∧ N2.1 (x + 95 + 21) (5 * j + c) = Int32.ofNat l) := fun c l hc hl => by
      rw [fC _ _ (by omega), s6 c l hc hl]
      constructor
      · rintro q ⟨j, a, b⟩
        exact q ⟨j, a, by rw [← w21 c j hc a]; exact b⟩
      · rintro q ⟨j, a, b⟩
        exact q ⟨j, a, by rw [w21 c j hc a]; exact b⟩
    have u20 : ¬ n = 0 → (N2.1 (x + 95 + 20) 0).toInt < k7.toInt := fun g => by rw [w20]; exact s4 g
    clear s1 s2 s3 s4 s5 s6
    rcases hw with hw | ⟨hw, hl⟩
    · subst hw
      refine ⟨n, M2, N2, Nat.le_refl _, by omega, hG, ⟨w42, u3, u4, fun g => by have := u20 g; omega, u5, u6⟩, Wp.eq ?_, Wp.eq ?_⟩
      · unfold l_X2_findOthers_30
        rw [g27]
        exact Wp.ng n99 (Wp.j1 (Wp.ng hk (Wp.cl g1 (Wp.ps rfl (Wp.nam (Wp.ret rfl))))))
      · unfold l_X11_tellFits_20
        refine Wp.ng n99 (Wp.j1 (Wp.ng hk (Wp.nam ?_)))
        rw [v42]
        exact Wp.cl g2 (Wp.ps rfl (Wp.nam (Wp.ret rfl)))
    · subst hw
      have hlk : ∀ c, c < 5 → (M2.1 (x + 92) c).toInt.toNat ≤ 128 := fun c hc => by
        have := hl c hc (by omega)
        omega
      have hlo : ∀ c, c < 5 → M2.1 (x + 92) c = Int32.ofNat (M2.1 (x + 92) c).toInt.toNat := fun c hc => nat_of (hl c hc (by omega)).2.1
      have hl21 : ∀ c, c < 5 → N2.1 (x + 95 + 21) (5 * n + c) = Int32.ofNat (M2.1 (x + 92) c).toInt.toNat := fun c hc => by rw [← hlo c hc]; exact (hl c hc (by omega)).1.symm
      generalize hLK : (fun c => (M2.1 (x + 92) c).toInt.toNat) = lk at *
      have hlk' : ∀ c, c < 5 → lk c ≤ 128 := fun c hc => by rw [← hLK]; exact hlk c hc
      have hlo' : ∀ c, c < 5 → M2.1 (x + 92) c = Int32.ofNat (lk c) := fun c hc => by rw [← hLK]; exact hlo c hc
      have hl21' : ∀ c, c < 5 → N2.1 (x + 95 + 21) (5 * n + c) = Int32.ofNat (lk c) := fun c hc => by rw [← hLK]; exact hl21 c hc
      clear hlk hlo hl21 hLK
      have hsee := see_loop (x := x) (lk := lk) (M := wi (wi M2 (x + 79) 3 (Int32.ofNat (n + 1))) (x + 79) 4 (imin (M2.1 (x + 79) 4) k7)) hlk' (fun c hc => by rw [wi_rwo (by omega), wi_rwo (by omega)]; exact hlo' c hc) 5 0 FU (by omega) (by unfold FU; omega)
      generalize hMb : wi (wi M2 (x + 79) 3 (Int32.ofNat (n + 1))) (x + 79) 4 (imin (M2.1 (x + 79) 4) k7) = Mb at hsee
      have b93 : ∀ b j, ¬ b = x + 79 → Mb.1 b j = M2.1 b j := fun b j hb => by rw [← hMb, wi_rwo hb, wi_rwo hb]
      have q93 := fun c => sees_93 (x := x) (M := Mb) (c := c) hlk' 5 (by omega)
      have q94 := fun c l (hl : l ≤ 128) => sees_94 (x := x) (M := Mb) (c := c) hl hlk' 5 (by omega)
      have n20 : ∀ b j, ¬ b = x + 95 + 20 → ¬ (b = x + 95 ∧ j = 42) → (wi (wi N2 (x + 95 + 20) n k7) (x + 95) 42 (Int32.ofNat (n + 1))).1 b j = N2.1 b j := fun b j h1 h2 => by
        simp only [wi]
        rw [if_neg (by omega), if_neg (by omega)]
      have h21 : (wi (wi N2 (x + 95 + 20) n k7) (x + 95) 42 (Int32.ofNat (n + 1))).1 (x + 95 + 21) = N2.1 (x + 95 + 21) := funext fun j => n20 _ _ (by omega) (by omega)
      have h20 : (wi (wi N2 (x + 95 + 20) n k7) (x + 95) 42 (Int32.ofNat (n + 1))).1 (x + 95 + 20) 0 = if n = 0 then k7 else N2.1 (x + 95 + 20) 0 := by
        rw [wi_rwo (by omega)]
        by_cases g : n = 0
        · rw [if_pos g, g, wi_hit]
        · rw [if_neg g, wi_sl (by omega)]
      have ti7 : (k7 + 1).toInt = k7.toInt + 1 := by
        have e1 : (1 : Int32).toInt = 1 := rfl
        rw [ti_add (by rw [e1]; omega) (by rw [e1]; omega), e1]
      have hmin : imin (M2.1 (x + 79) 4) k7 = (wi (wi N2 (x + 95 + 20) n k7) (x + 95) 42 (Int32.ofNat (n + 1))).1 (x + 95 + 20) 0 := by
        rw [h20, u4]
        have e100 : (100 : Int32).toInt = 100 := rfl
        unfold imin
        by_cases g : n = 0
        · rw [if_pos g, if_pos g, if_pos (lt_of (by rw [e100]; omega))]
        · have := u20 g
          rw [if_neg g, if_neg g, if_neg (nlt_of (by omega))]
      refine ⟨n + 1, sees x lk 5 Mb, wi (wi N2 (x + 95 + 20) n k7) (x + 95) 42 (Int32.ofNat (n + 1)), by omega, Nat.le_refl _, ?_, ⟨wi_hit, ?_, ?_, fun _ => ?_, fun c hc => ?_, fun c l hc hl => ?_⟩, Wp.eq ?_, Wp.eq ?_⟩
      · refine hG.wr (fun b j hb => ?_) ?_ (fun b j hb => n20 _ _ (by omega) (by omega)) rfl
        · rw [sees_o (by omega), b93 _ _ (by omega)]
        · rw [sees_2, ← hMb]; rfl
      · rw [sees_o (by omega), ← hMb, wi_sl (by decide), wi_hit]
      · rw [sees_o (by omega), ← hMb, wi_hit, if_neg (by omega)]
        exact hmin
      · rw [h20]
        by_cases g : n = 0
        · rw [if_pos g]; omega
        · rw [if_neg g]
          have := u20 g
          omega
      · rw [q93 c, h21, b93 _ _ (by omega), b93 _ _ (by omega), u5 c hc]
        have hu := u6 c (lk c) hc (hlk' c hc)
        rw [dct_s, hl21' c hc]
        by_cases g : ∃ j, j < n ∧ N2.1 (x + 95 + 21) (5 * j + c) = Int32.ofNat (lk c)
        · rw [if_neg (fun q => (hu.mp q.2) g), if_pos g]
          rfl
        · rw [if_pos ⟨hc, hu.mpr g⟩, if_neg g, i_ad1]
      · rw [q94 c l hl, h21, b93 _ _ (by omega)]
        have hu := u6 c l hc hl
        have ex : (∃ j, j < n + 1 ∧ N2.1 (x + 95 + 21) (5 * j + c) = Int32.ofNat l) ↔ (∃ j, j < n ∧ N2.1 (x + 95 + 21) (5 * j + c) = Int32.ofNat l) ∨ l = lk c := by
          constructor
          · rintro ⟨j, a, b⟩
            by_cases e : j < n
            · exact Or.inl ⟨j, e, b⟩
            · have : j = n := by omega
              subst this
              rw [hl21' c hc] at b
              have h1 := congrArg Int32.toInt b
              rw [ti_nat (by have := hlk' c hc; omega), ti_nat (by omega)] at h1
              exact Or.inr (by omega)
          · rintro (⟨j, a, b⟩ | e)
            · exact ⟨j, by omega, b⟩
            · exact ⟨n, by omega, by rw [hl21' c hc, e]⟩
        rw [ex]
        by_cases e : l = lk c
        · constructor
          · intro q
            by_cases g : M2.1 (x + 94) (129 * c + l) = 0
            · rw [if_pos ⟨hc, e, g⟩] at q
              exact absurd q (by decide)
            · rw [if_neg (fun q => g q.2.2)] at q
              exact absurd q g
          · intro q
            exact absurd (Or.inr e) q
        · rw [if_neg (fun q => e q.2.1), hu]
          constructor
          · intro q g
            rcases g with g | g
            · exact q g
            · exact e g
          · exact fun q g => q (Or.inl g)
      · unfold l_X2_findOthers_30
        rw [g27]
        refine Wp.ng n99 (Wp.j1 (Wp.ng hk (Wp.cl g1 (Wp.ng (by decide) (Wp.nam ?_)))))
        rw [u3, i_ad1]
        have c4 : (wi M2 (x + 79) 3 (Int32.ofNat (n + 1))).1 (x + 79) 4 = M2.1 (x + 79) 4 := wi_sl (by decide)
        rw [c4]
        refine Wp.cl (e_min _ _ _) (Wp.nam ?_)
        have hs : f_X2_seeLooks (x + 79) (wi (wi M2 (x + 79) 3 (Int32.ofNat (n + 1))) (x + 79) 4 (imin (M2.1 (x + 79) 4) k7)) = some ((), sees x lk 5 Mb) := by
          rw [hMb]
          exact hsee
        exact Wp.cl hs (Wp.nam (Wp.ret rfl))
      · unfold l_X11_tellFits_20
        refine Wp.ng n99 (Wp.j1 (Wp.ng hk (Wp.nam ?_)))
        rw [v42]
        refine Wp.cl g2 (Wp.ng (by decide) ?_)
        rw [w42]
        refine Wp.gi (i_rng (by omega) (by decide)) ?_
        rw [i_nn (by omega)]
        have c42 : (wi N2 (x + 95 + 20) n k7).1 (x + 95) 42 = Int32.ofNat n := by rw [wi_rwo (by omega)]; exact w42
        refine Wp.nam (Wp.nam ?_)
        rw [c42, i_ad1]
        exact Wp.nam (Wp.ret rfl)
