/-! The class's acts. -/
def jAct (s0 rr : Nat) (x2_ x3_ : Int32) (M1 : Mem) : Option (Unit × Mem) := bd (f_X10_put (s0 + 25) 40 (M1.1 s0 2) x2_ M1) (fun _ M3 => bd (f_X10_put (s0 + 26) 40 (M3.1 s0 2) x3_ M3) (fun _ M5 => nm (wi M5 s0 2 ((M5.1 s0 2) + (1 : Int32))) (fun M6 => bd (f_X9_apply (s0 + 1) rr x2_ x3_ M6) (fun _ M8 => some ((), M8)))))
theorem FS.at {x : Nat} {M M' : Mem} (h : FS x M M') : M'.2.2 0 = M.2.2 0 := by rw [h.2]
theorem LineC.FS {x : Nat} {M M1 M2 : Mem} {L : LN} (h : LineC M1 (M.2.2 0) L) (hf : FS x M1 M2) (ha : lineAt x M) : LineC M2 (M.2.2 0) L := h.cg (fun b k hb => hf.1 b k (by unfold lineAt at ha; omega))
theorem push_ok {x : Nat} {L : LN} {M M1 N : Mem} {kind num : Int32} {r r' past nin nlev stat : Nat → Int32} {n nn : Nat} (hI : Inv2 x L M N) (hf : FS x M M1) (hs : SRn L M1 (x + 19) r past nin nlev stat n nn) (hn : n < 40) (hst : StR L kind num r r') (ho : actOk kind num) : ∃ M', jAct (x + 19) (M.2.2 0) kind num M1 = some ((), M') ∧ FS x M M' ∧ SRn L M' (x + 19) r' (blkP past r n 665) nin nlev stat (n + 1) nn := by
  have ha := hI.at
  obtain ⟨a1, a2, a3, a4, a5, ⟨T, a6⟩, ⟨T0, a7⟩, a8, a9, a10⟩ := hs
  generalize hM4 : wi (wi (wi M1 (x + 19 + 25) n kind) (x + 19 + 26) n num) (x + 19) 2 (Int32.ofNat (n + 1)) = M4
  have g4 : ∀ b k, ¬ (b = x + 19 + 25 ∧ k = n) → ¬ (b = x + 19 + 26 ∧ k = n) → ¬ (b = x + 19 ∧ k = 2) → M4.1 b k = M1.1 b k := fun b k h1 h2 h3 => by
    rw [← hM4]
    simp only [wi]
    rw [if_neg h3, if_neg h2, if_neg h1]
  have f4 : FS x M M4 := by
    rw [← hM4]
    exact ((hf.tr (FS.wr (by omega))).tr (FS.wr (by omega))).tr (FS.wr (by omega))
  have hL4 : LineC M4 (M.2.2 0) L := hI.2.2.1.FS f4 ha
  have hw4 : W0 L T (getW M4 (x + 19 + 1)) r := a6.lv (Lv.of fun d k hd => g4 _ _ (by omega) (by omega) (by omega))
  obtain ⟨M5, e5, l5, f5, d5⟩ := app_ok hI hL4 (by omega) hw4 ho
  have g5 : ∀ b k, x + 19 ≤ b → b < x + 49 → ¬ (x + 19 + 1 ≤ b ∧ b < x + 19 + 13) → M5.1 b k = M4.1 b k := fun b k h1 h2 h3 => f5 b k (by omega) (by unfold lineAt at ha; omega) (by unfold lineAt at ha; omega)
  have v25 : M4.1 (x + 19 + 25) n = kind := by rw [← hM4, wi_rwo (by omega), wi_rwo (by omega), wi_hit]
  have v26 : M4.1 (x + 19 + 26) n = num := by rw [← hM4, wi_rwo (by omega), wi_hit]
  have v2 : M4.1 (x + 19) 2 = Int32.ofNat (n + 1) := by rw [← hM4, wi_hit]
  have hpr : ∀ j, j ≤ n → ∀ k, k < 665 → prR (blkP past r n 665) r' (n + 1) j k = prR past r n j k := fun j hj k hk => by
    unfold prR
    rw [if_pos (show j < n + 1 by omega)]
    by_cases e : j < n
    · rw [if_pos e]
      show blkP past r n 665 (665 * j + k) = past (665 * j + k)
      unfold blkP
      rw [if_neg (by omega)]
    · rw [if_neg e]
      have : j = n := by omega
      subst this
      show blkP past r j 665 (665 * j + k) = r k
      unfold blkP
      have e2 : 665 * j + k - 665 * j = k := by omega
      rw [if_pos (by omega), e2]
  have hprn : ∀ k, prR (blkP past r n 665) r' (n + 1) (n + 1) k = r' k := fun k => by
    unfold prR
    rw [if_neg (by omega)]
  refine ⟨M5, ?_, ⟨fun b k hb => by rw [f5 b k (by omega) (by unfold lineAt at ha; omega) (by unfold lineAt at ha; omega)]; exact f4.1 b k hb, by rw [d5]; exact f4.2⟩, by omega, a2, by rw [g5 _ _ (by omega) (by omega) (by omega)]; exact v2, by rw [g5 _ _ (by omega) (by omega) (by omega), g4 _ _ (by omega) (by omega) (by omega)]; exact a4, fun j hj => ?_, ?_, ⟨T0, (a7.lv (Lv.of fun d k hd => ?_)).rg (fun k hk => hpr 0 (Nat.zero_le _) k hk)⟩, fun j hj => ?_, fun j hj => ?_, fun j hj => ?_⟩
  · unfold jAct
    have e1 : f_X10_put (x + 19 + 25) 40 (M1.1 (x + 19) 2) kind M1 = some ((), wi M1 (x + 19 + 25) n kind) := by rw [a3]; exact put_nat hn (by decide)
    rw [bd_eq e1]
    have e2 : f_X10_put (x + 19 + 26) 40 ((wi M1 (x + 19 + 25) n kind).1 (x + 19) 2) num (wi M1 (x + 19 + 25) n kind) = some ((), wi (wi M1 (x + 19 + 25) n kind) (x + 19 + 26) n num) := by rw [wi_rwo (by omega), a3]; exact put_nat hn (by decide)
    rw [bd_eq e2]
    unfold nm
    rw [wi_rwo (show ¬ x + 19 = x + 19 + 26 by omega), wi_rwo (show ¬ x + 19 = x + 19 + 25 by omega), a3, i_ad1, hM4]
    show bd (f_X9_apply (x + 19 + 1) (M.2.2 0) kind num M4) (fun _ M8 => some ((), M8)) = _
    rw [bd_eq e5]
  · rw [g5 _ _ (by omega) (by omega) (by omega), g5 _ _ (by omega) (by omega) (by omega)]
    by_cases e : j = n
    · subst e
      rw [v25, v26]
      exact ho
    · rw [g4 _ _ (by omega) (by omega) (by omega), g4 _ _ (by omega) (by omega) (by omega)]
      exact a5 j (by omega)
  · obtain ⟨T', hT'⟩ := hst _ _ hw4
    exact ⟨T', hT'.lv l5⟩
  · rw [g5 _ _ (by omega) (by omega) (by omega), g4 _ _ (by omega) (by omega) (by omega)]
  · rw [g5 _ _ (by omega) (by omega) (by omega), g5 _ _ (by omega) (by omega) (by omega)]
    by_cases e : j = n
    · subst e
      rw [v25, v26]
      refine hst.rg (fun k hk => ?_) (fun k hk => hprn k)
      rw [hpr j (Nat.le_refl _) k hk]
      unfold prR
      rw [if_neg (by omega)]
    · rw [g4 _ _ (by omega) (by omega) (by omega), g4 _ _ (by omega) (by omega) (by omega)]
      exact (a8 j (by omega)).rg (hpr j (by omega)) (hpr (j + 1) (by omega))
  · rw [g5 _ _ (by omega) (by omega) (by omega), g5 _ _ (by omega) (by omega) (by omega), g4 _ _ (by omega) (by omega) (by omega), g4 _ _ (by omega) (by omega) (by omega)]
    exact a9 j hj
  · rw [g5 _ _ (by omega) (by omega) (by omega), g4 _ _ (by omega) (by omega) (by omega)]
    exact a10 j hj
theorem wcp_sh {M : Mem} {a j : Nat} (hj : j < 39) : (wcp M a a 1 0 39).1 a j = M.1 a (j + 1) := by
  have z0 : (0 : Int32).toNatClampNeg = 0 := rfl
  have z1 : (1 : Int32).toNatClampNeg = 1 := rfl
  have z39 : (39 : Int32).toNatClampNeg = 39 := rfl
  simp only [wcp, va_cpy, z0, z1, z39, if_true]
  rw [if_pos (by omega), Nat.sub_zero, Nat.add_comm]
theorem wcp_ne {M : Mem} {a b j : Nat} (hb : ¬ b = a) : (wcp M a a 1 0 39).1 b j = M.1 b j := by
  simp only [wcp, if_neg hb]
theorem act_cl {x : Nat} {L : LN} {M N : Mem} {kind num : Int32} {r r' past nin nlev stat : Nat → Int32} {n nn : Nat} (hI : Inv2 x L M N) (hs : SRn L M (x + 19) r past nin nlev stat n nn) (hst : StR L kind num r r') (ho : actOk kind num) : ∃ M', f_X8_act (x + 19) (M.2.2 0) kind num M = some ((), M') ∧ FS x M M' ∧ ((n < 40 ∧ SRn L M' (x + 19) r' (blkP past r n 665) nin nlev stat (n + 1) nn) ∨ (n = 40 ∧ SRn L M' (x + 19) r' (blkP (shP past 26600) r 39 665) nin nlev stat 40 nn)) := by
  have ha := hI.at
  by_cases hn : n < 40
  · obtain ⟨M', e, f, s⟩ := push_ok hI FS.rf hs hn hst ho
    refine ⟨M', Wp.eq ?_, f, Or.inl ⟨hn, s⟩⟩
    unfold f_X8_act
    refine Wp.j1 (Wp.ps ?_ ⟨_, e, rfl⟩)
    rw [hs.2.2.1]
    exact (i_lt (a := n) (b := 40) (by omega) (by decide)).mpr hn
  · have h40 : n = 40 := by have := hs.1; omega
    subst h40
    have hs0 := hs
    obtain ⟨a1, a2, a3, a4, a5, ⟨T, a6⟩, ⟨T0, a7⟩, a8, a9, a10⟩ := hs
    obtain ⟨M1, e1, l1, f1, d1⟩ := app_ok hI hI.2.2.1 (show x + 19 ≤ x + 19 + 13 by omega) a7 (a5 0 (by decide))
    generalize hM2 : wi (wcp (wcp M1 (x + 19 + 25) (x + 19 + 25) 1 0 39) (x + 19 + 26) (x + 19 + 26) 1 0 39) (x + 19) 2 (Int32.ofNat 39) = M2
    have g2 : ∀ b k, ¬ (b = x + 19 + 25) → ¬ (b = x + 19 + 26) → ¬ (b = x + 19 ∧ k = 2) → M2.1 b k = M1.1 b k := fun b k h1 h2 h3 => by
      rw [← hM2]
      simp only [wi]
      rw [if_neg h3, wcp_ne h2, wcp_ne h1]
    have g1 : ∀ b k, x + 19 ≤ b → b < x + 49 → ¬ (x + 19 + 13 ≤ b ∧ b < x + 19 + 25) → M1.1 b k = M.1 b k := fun b k h1 h2 h3 => f1 b k (by omega) (by unfold lineAt at ha; omega) (by unfold lineAt at ha; omega)
    have v25 : ∀ j, j < 39 → M2.1 (x + 19 + 25) j = M.1 (x + 19 + 25) (j + 1) := fun j hj => by
      rw [← hM2, wi_rwo (by omega), wcp_ne (by omega), wcp_sh hj, g1 _ _ (by omega) (by omega) (by omega)]
    have v26 : ∀ j, j < 39 → M2.1 (x + 19 + 26) j = M.1 (x + 19 + 26) (j + 1) := fun j hj => by
      rw [← hM2, wi_rwo (by omega), wcp_sh hj, wcp_ne (by omega), g1 _ _ (by omega) (by omega) (by omega)]
    have v2 : M2.1 (x + 19) 2 = Int32.ofNat 39 := by rw [← hM2, wi_hit]
    have f2 : FS x M M2 := ⟨fun b k hb => by
      rw [g2 b k (by omega) (by omega) (by omega)]
      exact f1 b k (by omega) (by unfold lineAt at ha; omega) (by unfold lineAt at ha; omega), by rw [← hM2]; exact d1⟩
    have hpr : ∀ j, j ≤ 39 → ∀ k, k < 665 → prR (shP past 26600) r 39 j k = prR past r 40 (j + 1) k := fun j hj k hk => by
      unfold prR
      by_cases e : j < 39
      · rw [if_pos e, if_pos (show j + 1 < 40 by omega)]
        show shP past 26600 (665 * j + k) = past (665 * (j + 1) + k)
        unfold shP
        have e2 : 665 * j + k + 665 = 665 * (j + 1) + k := by omega
        rw [e2, if_pos (by omega)]
      · rw [if_neg e, if_neg (by omega)]
    have s2 : SRn L M2 (x + 19) r (shP past 26600) nin nlev stat 39 nn := by
      refine ⟨by omega, a2, v2, by rw [g2 _ _ (by omega) (by omega) (by omega), g1 _ _ (by omega) (by omega) (by omega)]; exact a4, fun j hj => by rw [v25 j hj, v26 j hj]; exact a5 (j + 1) (by omega), ⟨T, a6.lv (Lv.of fun d k hd => by rw [g2 _ _ (by omega) (by omega) (by omega), g1 _ _ (by omega) (by omega) (by omega)])⟩, ?_, fun j hj => ?_, fun j hj => ?_, fun j hj => ?_⟩
      · obtain ⟨T', hT'⟩ := a8 0 (by decide) _ _ a7
        refine ⟨T', ((hT'.lv l1).lv (Lv.of fun d k hd => g2 _ _ (by omega) (by omega) (by omega))).rg (fun k hk => hpr 0 (by omega) k hk)⟩
      · rw [v25 j hj, v26 j hj]
        exact (a8 (j + 1) (by omega)).rg (hpr j (by omega)) (hpr (j + 1) (by omega))
      · rw [g2 _ _ (by omega) (by omega) (by omega), g2 _ _ (by omega) (by omega) (by omega), g1 _ _ (by omega) (by omega) (by omega), g1 _ _ (by omega) (by omega) (by omega)]
        exact a9 j hj
      · rw [g2 _ _ (by omega) (by omega) (by omega), g1 _ _ (by omega) (by omega) (by omega)]
        exact a10 j hj
    obtain ⟨M', e, f, s⟩ := push_ok hI f2 s2 (by decide) hst ho
    refine ⟨M', Wp.eq ?_, f, Or.inr ⟨rfl, s⟩⟩
    unfold f_X8_act
    refine Wp.j1 (Wp.ng ?_ ?_)
    · rw [a3]; decide
    · refine Wp.cl (at_0 (by decide) (by decide)) (Wp.cl (at_0 (by decide) (by decide)) (Wp.cl e1 ?_))
      refine Wp.gp (by decide) (Wp.nam (Wp.gp (by decide) (Wp.nam (Wp.nam ?_))))
      rw [wcp_ne (show ¬ x + 19 = x + 19 + 26 by omega), wcp_ne (show ¬ x + 19 = x + 19 + 25 by omega), g1 _ _ (by omega) (by omega) (by omega), a3]
      have e39 : Int32.ofNat 40 - 1 = Int32.ofNat 39 := rfl
      rw [e39, hM2]
      exact ⟨_, e, rfl⟩
/-- the model keeps, whatever there is -/
theorem keep_ok {x : Nat} {N : Mem} {n : Nat} (hn : n ≤ 40) (h31 : N.1 (x + 95) 31 = Int32.ofNat n) : ∃ N1 past', f_X11_keep (x + 95) N = some ((), N1) ∧ N1 = wi (rset N (x + 95 + 15) past') (x + 95) 31 (Int32.ofNat (if n < 40 then n + 1 else 40)) ∧ ((n < 40 ∧ past' = blkP (N.1 (x + 95 + 15)) (N.1 (x + 95 + 8)) n 665) ∨ (n = 40 ∧ past' = blkP (shP (N.1 (x + 95 + 15)) 26600) (N.1 (x + 95 + 8)) 39 665)) := by
  by_cases h : n < 40
  · exact ⟨_, _, e_keep h h31, by rw [if_pos h], Or.inl ⟨h, rfl⟩⟩
  · obtain rfl : n = 40 := by omega
    exact ⟨_, _, e_keep40 h31, by rw [if_neg h], Or.inr ⟨rfl, rfl⟩⟩
theorem e_refuse {x s0 k : Nat} {M : Mem} (hk : k < 3) : f_X8_refuse s0 (Int32.ofNat k) M = some ((), wi M (s0 + 29) k (M.1 (s0 + 29) k + 1)) := by
  refine Wp.eq ?_
  unfold f_X8_refuse
  exact Wp.cl (at_nat hk (by decide)) (Wp.cl (put_nat hk (by decide)) (Wp.ret rfl))
theorem e_refuseM {t k : Nat} {N : Mem} (hk : k < 3) : f_X11_refuse t (Int32.ofNat k) N = some (-1, wi N (t + 7) k (N.1 (t + 7) k + 1)) := by
  refine Wp.eq ?_
  unfold f_X11_refuse
  refine Wp.gi (i_rng hk (by decide)) (Wp.gi (i_rng hk (by decide)) (Wp.nam ?_))
  rw [i_nn (by omega)]
  exact Wp.ret rfl
theorem Inv2.refuse {x k : Nat} {L : LN} {M N : Mem} (h : Inv2 x L M N) (hk : k < 3) : Inv2 x L (wi M (x + 19 + 29) k (M.1 (x + 19 + 29) k + 1)) (wi N (x + 95 + 7) k (N.1 (x + 95 + 7) k + 1)) := by
  obtain ⟨n, nn, c1, c2, c3⟩ := h.2.2.2.2.2.2.2.2.2.1
  obtain ⟨a1, a2, a3, a4, a5, ⟨T, a6⟩, ⟨T0, a7⟩, a8, a9, a10⟩ := c3
  refine h.now (FS.wr (by omega)) (GS.wr (by omega)) (h.2.2.2.1.2.2.2.2.cg (wi_rwo (by omega)) (wi_rwo (by omega)) (wi_rwo (by omega))) (n := n) (nn := nn) (by rw [wi_rwo (by omega)]; exact c1) (by rw [wi_rwo (by omega)]; exact c2) ?_
  rw [wi_rwo (show ¬ x + 95 + 8 = x + 95 + 7 by omega), wi_rwo (show ¬ x + 95 + 15 = x + 95 + 7 by omega), wi_rwo (show ¬ x + 95 + 18 = x + 95 + 7 by omega), wi_rwo (show ¬ x + 95 + 19 = x + 95 + 7 by omega)]
  have g : ∀ b, ¬ b = x + 19 + 29 → (wi M (x + 19 + 29) k (M.1 (x + 19 + 29) k + 1)).1 b = M.1 b := fun b hb => wi_rwo hb
  refine ⟨a1, a2, by rw [g _ (by omega)]; exact a3, by rw [g _ (by omega)]; exact a4, fun j hj => by rw [g _ (by omega), g _ (by omega)]; exact a5 j hj, ⟨T, a6.lv (Lv.of fun d j hd => by rw [g _ (by omega)])⟩, ⟨T0, a7.lv (Lv.of fun d j hd => by rw [g _ (by omega)])⟩, fun j hj => by rw [g _ (by omega), g _ (by omega)]; exact a8 j hj, fun j hj => by rw [g _ (by omega), g _ (by omega)]; exact a9 j hj, fun j hj => ?_⟩
  by_cases e : j = k
  · subst e
    rw [wi_hit, wi_hit, a10 j hj]
  · rw [wi_sl e, wi_sl e]
    exact a10 j hj
theorem e_ref1 {s0 : Nat} {M : Mem} : f_X8_refuse s0 (1 : Int32) M = some ((), wi M (s0 + 29) 1 (M.1 (s0 + 29) 1 + 1)) := e_refuse (x := 0) (k := 1) (by decide)
theorem e_ref2 {s0 : Nat} {M : Mem} : f_X8_refuse s0 (2 : Int32) M = some ((), wi M (s0 + 29) 2 (M.1 (s0 + 29) 2 + 1)) := e_refuse (x := 0) (k := 2) (by decide)
theorem e_ref0 {s0 : Nat} {M : Mem} : f_X8_refuse s0 (0 : Int32) M = some ((), wi M (s0 + 29) 0 (M.1 (s0 + 29) 0 + 1)) := e_refuse (x := 0) (k := 0) (by decide)
theorem e_mref1 {t : Nat} {N : Mem} : f_X11_refuse t (1 : Int32) N = some (-1, wi N (t + 7) 1 (N.1 (t + 7) 1 + 1)) := e_refuseM (k := 1) (by decide)
theorem e_mref2 {t : Nat} {N : Mem} : f_X11_refuse t (2 : Int32) N = some (-1, wi N (t + 7) 2 (N.1 (t + 7) 2 + 1)) := e_refuseM (k := 2) (by decide)
/-- refused alike -/
theorem Inv2.refV {x : Nat} {L : LN} {M N : Mem} {v : Int32} {fc fm : Option (Int32 × Mem)} (h : Inv2 x L M N) (e1 : fc = some (v, wi M (x + 19 + 29) 1 (M.1 (x + 19 + 29) 1 + 1))) (e2 : fm = some (v, wi N (x + 95 + 7) 1 (N.1 (x + 95 + 7) 1 + 1))) : CallV x M N fc fm := ⟨v, _, _, L, e1, e2, h.refuse (by decide), (FS.wr (by omega)).fr, (GS.wr (by omega)).fr⟩
/-- an act that turns: class and model -/
theorem turn_ok {x j d k : Nat} {L : LN} {M N : Mem} {kind num : Int32} (hI : Inv2 x L M N) (hj : (d = 1 ∧ k = 6 ∧ j = 25) ∨ (d = 1 ∧ k = 7 ∧ j = 26) ∨ (d = 1 ∧ k = 0 ∧ j = 27) ∨ (d = 5 ∧ k = 2 ∧ j = 28) ∨ (d = 5 ∧ k = 1 ∧ j = 29)) (hv : j = 27 → -99 ≤ num.toInt ∧ num.toInt ≤ 99) (hk : kind = (if j = 25 then 1 else if j = 26 then 2 else if j = 27 then 3 else if j = 28 then 4 else 5)) : ∃ M' N', f_X8_act (x + 19) (M.2.2 0) kind num M = some ((), M') ∧ (∃ N1, f_X11_keep (x + 95) N = some ((), N1) ∧ N' = wi N1 (x + 95 + 8) j num) ∧ Inv2 x L M' N' ∧ FrC x M M' ∧ FrM x N N' ∧ N'.1 (x + 95) 2 = N.1 (x + 95) 2 := by
  obtain ⟨n, nn, c1, c2, c3⟩ := hI.2.2.2.2.2.2.2.2.2.1
  have hact : ∀ c, actC L kind num c = uc c d k num := fun c => by
    rw [hk]
    rcases hj with ⟨h1, h2, h3⟩ | ⟨h1, h2, h3⟩ | ⟨h1, h2, h3⟩ | ⟨h1, h2, h3⟩ | ⟨h1, h2, h3⟩ <;> subst h1 h2 h3 <;> rfl
  have ho : actOk kind num := by
    rw [hk]
    rcases hj with ⟨h1, h2, h3⟩ | ⟨h1, h2, h3⟩ | ⟨h1, h2, h3⟩ | ⟨h1, h2, h3⟩ | ⟨h1, h2, h3⟩ <;> subst h3
    · exact Or.inr (Or.inl rfl)
    · exact Or.inr (Or.inr (Or.inl rfl))
    · exact Or.inr (Or.inr (Or.inr (Or.inl ⟨rfl, hv rfl⟩)))
    · exact Or.inr (Or.inr (Or.inr (Or.inr (Or.inl rfl))))
    · exact Or.inr (Or.inr (Or.inr (Or.inr (Or.inr rfl))))
  have hst : StR L kind num (N.1 (x + 95 + 8)) (rup (N.1 (x + 95 + 8)) j num) := fun c T hc => ⟨T, hc.1, hc.2.1, by rw [hact]; exact hc.2.2.set hj hv⟩
  obtain ⟨M', e, f, s⟩ := act_cl hI c3 hst ho
  obtain ⟨N1, past', k1, k2, k3⟩ := keep_ok c3.1 c1
  have gN : ∀ b a, ¬ b = x + 95 + 15 → ¬ (b = x + 95 ∧ a = 31) → N1.1 b a = N.1 b a := fun b a h1 h2 => by
    rw [k2]
    simp only [wi]
    rw [if_neg h2, rset_ne h1]
  have e15 : N1.1 (x + 95 + 15) = past' := by rw [k2, wi_rwo (by omega), rset_rf]
  have gs : GS x N (wi N1 (x + 95 + 8) j num) := ⟨fun b a hb => by
    rw [wi_rwo (by omega)]
    exact gN b a (by omega) (by omega), by rw [k2]; rfl⟩
  have row : ∀ b, ¬ b = x + 95 + 8 → ¬ b = x + 95 + 15 → ¬ b = x + 95 → (wi N1 (x + 95 + 8) j num).1 b = N.1 b := fun b h1 h2 h3 => by
    rw [wi_rwo h1]
    exact funext fun a => gN b a h2 (by omega)
  have e8 : (wi N1 (x + 95 + 8) j num).1 (x + 95 + 8) = rup (N.1 (x + 95 + 8)) j num := by
    rw [wi_rr]
    have : N1.1 (x + 95 + 8) = N.1 (x + 95 + 8) := funext fun a => gN _ a (by omega) (by omega)
    rw [this]
  have hcv : CVm (x + 95) (wi N1 (x + 95 + 8) j num) L.2.2.1 L.2.2.2 := hI.2.2.2.1.2.2.2.2.cg (row _ (by omega) (by omega) (by omega)) (row _ (by omega) (by omega) (by omega)) (row _ (by omega) (by omega) (by omega))
  have e31 : (wi N1 (x + 95 + 8) j num).1 (x + 95) 31 = Int32.ofNat (if n < 40 then n + 1 else 40) := by rw [wi_rwo (by omega), k2, wi_hit]
  have e32 : (wi N1 (x + 95 + 8) j num).1 (x + 95) 32 = Int32.ofNat nn := by rw [wi_rwo (by omega), gN _ _ (by omega) (by omega)]; exact c2
  refine ⟨M', _, e, ⟨N1, k1, rfl⟩, ?_, f.fr, gs.fr, by rw [wi_rwo (by omega), gN _ _ (by omega) (by omega)]⟩
  refine hI.now f gs hcv e31 e32 ?_
  rw [e8, row (x + 95 + 18) (by omega) (by omega) (by omega), row (x + 95 + 19) (by omega) (by omega) (by omega), row (x + 95 + 7) (by omega) (by omega) (by omega), wi_rwo (show ¬ x + 95 + 15 = x + 95 + 8 by omega), e15]
  rcases s with ⟨h1, h2⟩ | ⟨h1, h2⟩
  · rcases k3 with ⟨_, h4⟩ | ⟨h3, _⟩
    · rw [if_pos h1, h4]; exact h2
    · omega
  · rcases k3 with ⟨h3, _⟩ | ⟨_, h4⟩
    · omega
    · rw [if_neg (by omega), h4]; exact h2
theorem Inv2.sc {x : Nat} {L : LN} {M N : Mem} (h : Inv2 x L M N) : ∃ T, W0 L T (getW M (x + 19 + 1)) (N.1 (x + 95 + 8)) ∧ Core (L.1 0) (L.1 2) (L.1 3) (1100 * T) (1200 * T) (300 * T) T (getW M (x + 19 + 1)) (N.1 (x + 95 + 8)) := by
  obtain ⟨T, hT⟩ := h.w0
  obtain ⟨m, hm, _⟩ := hT.2.2
  exact ⟨T, hT, hm.1⟩
theorem e_turnTo0 {x j : Nat} {L : LN} {M N : Mem} {v lo hi w : Int32} (hj : j < 665) (h : ¬ (lo.toInt ≤ v.toInt ∧ v.toInt ≤ hi.toInt) ∨ v = N.1 (x + 95 + 8) j) : f_X11_turnTo (x + 95) (Int32.ofNat j) v lo hi w N = some (w, wi N (x + 95 + 7) 1 (N.1 (x + 95 + 7) 1 + 1)) := by
  refine Wp.eq ?_
  unfold f_X11_turnTo
  refine Wp.gi (i_rng hj (by decide)) (Wp.nam ?_)
  rw [i_nn (by omega)]
  by_cases hr : lo.toInt ≤ v.toInt ∧ v.toInt ≤ hi.toInt
  · refine Wp.cl (e_in1 (by rw [Int32.toInt_toInt64, Int32.toInt_toInt64]; exact hr)) (Wp.j0 (Wp.ng (by decide) (Wp.ps (h.resolve_left (fun g => g hr)) ?_)))
    exact Wp.cl e_mref1 (Wp.ret rfl)
  · refine Wp.cl (e_in0 (by rw [Int32.toInt_toInt64, Int32.toInt_toInt64]; exact hr)) (Wp.j0 (Wp.ps rfl ?_))
    exact Wp.cl e_mref1 (Wp.ret rfl)
theorem e_turnTo1 {x j : Nat} {N N1 : Mem} {v lo hi w : Int32} (hj : j < 665) (hr : lo.toInt ≤ v.toInt ∧ v.toInt ≤ hi.toInt) (hne : ¬ v = N.1 (x + 95 + 8) j) (hk : f_X11_keep (x + 95) N = some ((), N1)) : f_X11_turnTo (x + 95) (Int32.ofNat j) v lo hi w N = some (N.1 (x + 95 + 8) j, wi N1 (x + 95 + 8) j v) := by
  refine Wp.eq ?_
  unfold f_X11_turnTo
  refine Wp.gi (i_rng hj (by decide)) (Wp.nam ?_)
  rw [i_nn (by omega)]
  refine Wp.cl (e_in1 (by rw [Int32.toInt_toInt64, Int32.toInt_toInt64]; exact hr)) (Wp.j0 (Wp.ng (by decide) (Wp.ng hne (Wp.cl hk ?_))))
  exact Wp.gi (i_rng hj (by decide)) (Wp.nam (Wp.ret rfl))
theorem call_lose {x : Nat} {L : LN} {M N0 N : Mem} {v : Int32} (h : Rdy x L M N0 N) : CallV x M N (f_X10_lose x v M) (f_X11_lose (x + 95) v N0) := by
  obtain ⟨hr, hI, hc0⟩ := h
  have ha := hI.at
  obtain ⟨T, hT, hC⟩ := hI.sc
  have hold : M.1 (x + 19 + 1 + 1) 6 = N.1 (x + 95 + 8) 25 := hC.1.g25
  have e0 : (0 : Int32).toInt = 0 := rfl
  have e20 : (20 : Int32).toInt = 20 := rfl
  by_cases hg : (0 ≤ v.toInt ∧ v.toInt ≤ 20) ∧ ¬ v = N.1 (x + 95 + 8) 25
  · obtain ⟨M', N', a1, ⟨N1, a2, a3⟩, a4, a5, a6, _⟩ := turn_ok (num := v) hI (Or.inl ⟨rfl, rfl, rfl⟩) (fun h => absurd h (by decide)) rfl
    refine ⟨N.1 (x + 95 + 8) 25, M', N', L, Wp.eq ?_, Wp.eq ?_, a4, a5, a6⟩
    · unfold f_X10_lose
      rw [hold]
      refine Wp.nam (Wp.j0 (Wp.ng (nlt_of (by rw [e0]; omega)) (Wp.ng (nlt_of (by rw [e20]; omega)) (Wp.ng hg.2 (Wp.gp ha ?_)))))
      exact Wp.cl a1 (Wp.ret rfl)
    · unfold f_X11_lose
      refine Wp.cl hr (Wp.cl (e_turnTo1 (j := 25) (lo := 0) (hi := 20) (by decide) hg.1 hg.2 a2) ?_)
      rw [← a3]
      exact Wp.ret rfl
  · refine hI.refV (v := -1) (Wp.eq ?_) (Wp.eq ?_)
    · unfold f_X10_lose
      rw [hold]
      refine Wp.nam (Wp.j0 (Wp.br (fun _ => Wp.cl e_ref1 (Wp.ret rfl)) (fun g1 => Wp.br (fun _ => Wp.cl e_ref1 (Wp.ret rfl)) (fun g2 => Wp.br (fun _ => Wp.cl e_ref1 (Wp.ret rfl)) (fun g3 => ?_)))))
      exfalso
      have h1 := Int32.le_iff_toInt_le.mp (nlt_le.mp g1)
      have h2 := Int32.le_iff_toInt_le.mp (nlt_le.mp g2)
      rw [e0] at h1
      rw [e20] at h2
      exact hg ⟨⟨h1, h2⟩, g3⟩
    · unfold f_X11_lose
      refine Wp.cl hr (Wp.cl (e_turnTo0 (L := L) (M := M) (j := 25) (lo := 0) (hi := 20) (by decide) ?_) (Wp.ret rfl))
      by_cases hq : 0 ≤ v.toInt ∧ v.toInt ≤ 20
      · exact Or.inr (Decidable.not_not.mp fun g => hg ⟨hq, g⟩)
      · exact Or.inl hq
theorem call_stall {x : Nat} {L : LN} {M N0 N : Mem} {v : Int32} (h : Rdy x L M N0 N) : CallV x M N (f_X10_stall x v M) (f_X11_stall (x + 95) v N0) := by
  obtain ⟨hr, hI, hc0⟩ := h
  have ha := hI.at
  obtain ⟨T, hT, hC⟩ := hI.sc
  have hold : M.1 (x + 19 + 1 + 1) 7 = N.1 (x + 95 + 8) 26 := hC.1.g26
  have e0 : (0 : Int32).toInt = 0 := rfl
  have e30 : (30 : Int32).toInt = 30 := rfl
  by_cases hg : (0 ≤ v.toInt ∧ v.toInt ≤ 30) ∧ ¬ v = N.1 (x + 95 + 8) 26
  · obtain ⟨M', N', a1, ⟨N1, a2, a3⟩, a4, a5, a6, _⟩ := turn_ok (num := v) hI (Or.inr (Or.inl ⟨rfl, rfl, rfl⟩)) (fun h => absurd h (by decide)) rfl
    refine ⟨N.1 (x + 95 + 8) 26, M', N', L, Wp.eq ?_, Wp.eq ?_, a4, a5, a6⟩
    · unfold f_X10_stall
      rw [hold]
      refine Wp.nam (Wp.j0 (Wp.ng (nlt_of (by rw [e0]; omega)) (Wp.ng (nlt_of (by rw [e30]; omega)) (Wp.ng hg.2 (Wp.gp ha ?_)))))
      exact Wp.cl a1 (Wp.ret rfl)
    · unfold f_X11_stall
      refine Wp.cl hr (Wp.cl (e_turnTo1 (j := 26) (lo := 0) (hi := 30) (by decide) hg.1 hg.2 a2) ?_)
      rw [← a3]
      exact Wp.ret rfl
  · refine hI.refV (v := -1) (Wp.eq ?_) (Wp.eq ?_)
    · unfold f_X10_stall
      rw [hold]
      refine Wp.nam (Wp.j0 (Wp.br (fun _ => Wp.cl e_ref1 (Wp.ret rfl)) (fun g1 => Wp.br (fun _ => Wp.cl e_ref1 (Wp.ret rfl)) (fun g2 => Wp.br (fun _ => Wp.cl e_ref1 (Wp.ret rfl)) (fun g3 => ?_)))))
      exfalso
      have h1 := Int32.le_iff_toInt_le.mp (nlt_le.mp g1)
      have h2 := Int32.le_iff_toInt_le.mp (nlt_le.mp g2)
      rw [e0] at h1
      rw [e30] at h2
      exact hg ⟨⟨h1, h2⟩, g3⟩
    · unfold f_X11_stall
      refine Wp.cl hr (Wp.cl (e_turnTo0 (L := L) (M := M) (j := 26) (lo := 0) (hi := 30) (by decide) ?_) (Wp.ret rfl))
      by_cases hq : 0 ≤ v.toInt ∧ v.toInt ≤ 30
      · exact Or.inr (Decidable.not_not.mp fun g => hg ⟨hq, g⟩)
      · exact Or.inl hq
