/-! image and restore -/
theorem e_wcp {M : Mem} {w w0 : Nat} (ho : Ow w w0 12) : ∃ M', f_X9_copyFrom w w0 M = some ((), M') ∧ Lv (getW M w0) (getW M' w) ∧ (∀ b k, ¬ (w ≤ b ∧ b < w + 12) → M'.1 b k = M.1 b k) ∧ M'.2 = M.2 := by
  have hcp := e_cp0 (M := M) (w := w) (w0 := w0) (c := getW M w) ho
  rw [set_get] at hcp
  exact ⟨_, hcp, cp0_lv.tr getset, fun b k hb => rd_Wo hb, rfl⟩
theorem e_scopy {M : Mem} {s t : Nat} (ho : s + 30 ≤ t ∨ t + 30 ≤ s) : ∃ M', f_X8_copyFrom t s M = some ((), M') ∧ M'.2 = M.2 ∧ (∀ b k, ¬ (t ≤ b ∧ b < t + 30) → M'.1 b k = M.1 b k) ∧ M'.1 t 2 = M.1 s 2 ∧ M'.1 t 5 = M.1 s 5 ∧ (∀ j, j < 40 → M'.1 (t + 25) j = M.1 (s + 25) j) ∧ (∀ j, j < 40 → M'.1 (t + 26) j = M.1 (s + 26) j) ∧ (∀ j, j < 8 → M'.1 (t + 27) j = M.1 (s + 27) j) ∧ (∀ j, j < 8 → M'.1 (t + 28) j = M.1 (s + 28) j) ∧ (∀ j, j < 3 → M'.1 (t + 29) j = M.1 (s + 29) j) ∧ Lv (getW M (s + 1)) (getW M' (t + 1)) ∧ Lv (getW M (s + 13)) (getW M' (t + 13)) := by
  obtain ⟨M2, e2, l2, f2, d2⟩ := e_wcp (M := M) (w := t + 1) (w0 := s + 1) (by unfold Ow; omega)
  obtain ⟨M4, e4, l4, f4, d4⟩ := e_wcp (M := M2) (w := t + 13) (w0 := s + 13) (by unfold Ow; omega)
  have f : ∀ b k, ¬ (t + 1 ≤ b ∧ b < t + 25) → M4.1 b k = M.1 b k := fun b k hb => (f4 b k (by omega)).trans (f2 b k (by omega))
  generalize hF : rcp (rcp (rcp (wi (rcp (rcp (wi M4 t 2 (M.1 s 2)) (s + 25) (t + 25) 40) (s + 26) (t + 26) 40) t 5 (M.1 s 5)) (s + 27) (t + 27) 8) (s + 28) (t + 28) 8) (s + 29) (t + 29) 3 = F
  have g : ∀ b k, ¬ b = t → ¬ (t + 25 ≤ b ∧ b < t + 30) → F.1 b k = M4.1 b k := fun b k h1 h2 => by rw [← hF, rcp_ne (by omega), rcp_ne (by omega), rcp_ne (by omega), wi_rwo (by omega), rcp_ne (by omega), rcp_ne (by omega), wi_rwo (by omega)]
  have gs : ∀ k, F.1 t k = if k = 5 then M.1 s 5 else if k = 2 then M.1 s 2 else M4.1 t k := fun k => by
    rw [← hF, rcp_ne (by omega), rcp_ne (by omega), rcp_ne (by omega)]
    by_cases h5 : k = 5
    · subst h5; rw [wi_hit, if_pos rfl]
    · rw [wi_sl h5, if_neg h5, rcp_ne (by omega), rcp_ne (by omega)]
      by_cases h2 : k = 2
      · subst h2; rw [wi_hit, if_pos rfl]
      · rw [wi_sl h2, if_neg h2]
  refine ⟨F, Wp.eq ?_, by rw [← hF]; exact d4.trans d2, fun b k hb => by rw [g b k (by omega) (by omega)]; exact f b k (by omega), by rw [gs, if_neg (by decide), if_pos rfl], by rw [gs, if_pos rfl], fun j hj => ?_, fun j hj => ?_, fun j hj => ?_, fun j hj => ?_, fun j hj => ?_, l2.tr (Lv.of fun d k hd => ?_), ?_⟩
  · unfold f_X8_copyFrom
    refine Wp.cl e2 (Wp.cl e4 (Wp.nam ?_))
    rw [f s 2 (by omega)]
    refine Wp.cl (e_copyRow (by decide)) (Wp.cl (e_copyRow (by decide)) (Wp.nam ?_))
    rw [rcp_ne (show ¬ s = t + 26 by omega), rcp_ne (show ¬ s = t + 25 by omega), wi_rwo (show ¬ s = t by omega), f s 5 (by omega)]
    refine Wp.cl (e_copyRow (by decide)) (Wp.cl (e_copyRow (by decide)) (Wp.cl (e_copyRow (by decide)) ?_))
    rw [hF]
    exact Wp.ret rfl
  · rw [← hF, rcp_ne (by omega), rcp_ne (by omega), rcp_ne (by omega), wi_rwo (by omega), rcp_ne (by omega), rcp_in hj, wi_rwo (by omega), f _ _ (by omega)]
  · rw [← hF, rcp_ne (by omega), rcp_ne (by omega), rcp_ne (by omega), wi_rwo (by omega), rcp_in hj, rcp_ne (by omega), wi_rwo (by omega), f _ _ (by omega)]
  · rw [← hF, rcp_ne (by omega), rcp_ne (by omega), rcp_in hj, wi_rwo (by omega), rcp_ne (by omega), rcp_ne (by omega), wi_rwo (by omega), f _ _ (by omega)]
  · rw [← hF, rcp_ne (by omega), rcp_in hj, rcp_ne (by omega), wi_rwo (by omega), rcp_ne (by omega), rcp_ne (by omega), wi_rwo (by omega), f _ _ (by omega)]
  · rw [← hF, rcp_in hj, rcp_ne (by omega), rcp_ne (by omega), wi_rwo (by omega), rcp_ne (by omega), rcp_ne (by omega), wi_rwo (by omega), f _ _ (by omega)]
  · rw [g _ _ (by omega) (by omega)]
    exact f4 _ _ (by omega)
  · refine ((Lv.of (M := M) (M' := M2) (w := s + 13) (w' := s + 13) fun d k hd => f2 _ _ (by omega)).tr l4).tr (Lv.of fun d k hd => ?_)
    exact g _ _ (by omega) (by omega)
theorem SRn.copy {L : LN} {M : Mem} {s t : Nat} {r past nin nlev stat : Nat → Int32} {n nn : Nat} (h : SRn L M s r past nin nlev stat n nn) (ho : s + 30 ≤ t ∨ t + 30 ≤ s) : ∃ M', f_X8_copyFrom t s M = some ((), M') ∧ M'.2 = M.2 ∧ (∀ b k, ¬ (t ≤ b ∧ b < t + 30) → M'.1 b k = M.1 b k) ∧ SRn L M' t r past nin nlev stat n nn := by
  obtain ⟨M', e, d, f, v2, v5, v25, v26, v27, v28, v29, l1, l13⟩ := e_scopy (M := M) ho
  obtain ⟨a1, a2, a3, a4, a5, ⟨T, a6⟩, ⟨T0, a7⟩, a8, a9, a10⟩ := h
  exact ⟨M', e, d, f, a1, a2, v2.trans a3, v5.trans a4, fun j hj => by rw [v25 j (by omega), v26 j (by omega)]; exact a5 j hj, ⟨T, a6.lv l1⟩, ⟨T0, a7.lv l13⟩, fun j hj => by rw [v25 j (by omega), v26 j (by omega)]; exact a8 j hj, fun j hj => by rw [v27 j (by omega), v28 j (by omega)]; exact a9 j hj, fun j hj => by rw [v29 j hj]; exact a10 j hj⟩
theorem call_restore {x : Nat} {L : LN} {M N0 N : Mem} (h : Rdy x L M N0 N) : CallV x M N (f_X10_restore x M) (f_X11_restore (x + 95) N0) := by
  obtain ⟨hr, hI, hc0⟩ := h
  obtain ⟨d1, d2, d3⟩ := hI.2.2.2.2.2.2.2.2.2.2.1
  by_cases hk : M.1 x 4 = 0
  · refine ⟨0, M, N, L, Wp.eq ?_, Wp.eq ?_, hI, FrC.rf, GS.rf.fr⟩
    · unfold f_X10_restore
      exact Wp.ps hk (Wp.ret rfl)
    · unfold f_X11_restore
      exact Wp.cl hr (Wp.ps (d1.symm.trans hk) (Wp.ret rfl))
  · obtain ⟨n, nn, c1, c2, c3⟩ := d3 hk
    obtain ⟨M', e, d, f, s⟩ := c3.copy (t := x + 19) (by omega)
    generalize hF : rcp (rcp (rcp (rcp (rcp (wi (wi N (x + 95) 31 (Int32.ofNat n)) (x + 95) 32 (Int32.ofNat nn)) (x + 95 + 22) (x + 95 + 8) 665) (x + 95 + 23) (x + 95 + 15) 26600) (x + 95 + 24) (x + 95 + 18) 8) (x + 95 + 25) (x + 95 + 19) 8) (x + 95 + 26) (x + 95 + 7) 3 = N'
    have g : ∀ b k, ¬ (b = x + 95 + 7 ∨ b = x + 95 + 8 ∨ b = x + 95 + 15 ∨ b = x + 95 + 18 ∨ b = x + 95 + 19) → ¬ (b = x + 95 ∧ (k = 31 ∨ k = 32)) → N'.1 b k = N.1 b k := fun b k h1 h2 => by
      rw [← hF, rcp_ne (by omega), rcp_ne (by omega), rcp_ne (by omega), rcp_ne (by omega), rcp_ne (by omega)]
      simp only [wi]
      rw [if_neg (by omega), if_neg (by omega)]
    have gs : GS x N N' := ⟨fun b k hb => g b k (by omega) (by omega), by rw [← hF]; rfl⟩
    have fs : FS x M M' := ⟨fun b k hb => f b k (by omega), d⟩
    refine ⟨1, M', N', L, Wp.eq ?_, Wp.eq ?_, hI.now fs gs (hI.2.2.2.1.2.2.2.2.cg (funext fun _ => g _ _ (by omega) (by omega)) (funext fun _ => g _ _ (by omega) (by omega)) (funext fun _ => g _ _ (by omega) (by omega))) (n := n) (nn := nn) ?_ ?_ ?_, fs.fr, gs.fr⟩
    · unfold f_X10_restore
      exact Wp.ng hk (Wp.cl e (Wp.ret rfl))
    · unfold f_X11_restore
      refine Wp.cl hr (Wp.ng (fun g => hk (d1.trans g)) (Wp.nam (Wp.nam ?_)))
      rw [wi_sl (show ¬ 46 = 31 by decide), c1, c2]
      refine Wp.cl (e_copyTo (by omega) (by decide)) (Wp.cl (e_copyTo (by omega) (by decide)) (Wp.cl (e_copyTo (by omega) (by decide)) (Wp.cl (e_copyTo (by omega) (by decide)) (Wp.cl (e_copyTo (by omega) (by decide)) ?_))))
      rw [hF]
      exact Wp.ret rfl
    · rw [← hF, rcp_ne (by omega), rcp_ne (by omega), rcp_ne (by omega), rcp_ne (by omega), rcp_ne (by omega), wi_sl (by decide), wi_hit]
    · rw [← hF, rcp_ne (by omega), rcp_ne (by omega), rcp_ne (by omega), rcp_ne (by omega), rcp_ne (by omega), wi_hit]
    · refine s.cg (fun _ _ _ _ => rfl) (fun j hj => ?_) (fun j hj => ?_) (fun j hj => ?_) (fun j hj => ?_) (fun j hj => ?_)
      · rw [← hF, rcp_ne (by omega), rcp_ne (by omega), rcp_ne (by omega), rcp_ne (by omega), rcp_in hj, wi_rwo (by omega), wi_rwo (by omega)]
      · rw [← hF, rcp_ne (by omega), rcp_ne (by omega), rcp_ne (by omega), rcp_in hj, rcp_ne (by omega), wi_rwo (by omega), wi_rwo (by omega)]
      · rw [← hF, rcp_ne (by omega), rcp_ne (by omega), rcp_in hj, rcp_ne (by omega), rcp_ne (by omega), wi_rwo (by omega), wi_rwo (by omega)]
      · rw [← hF, rcp_ne (by omega), rcp_in hj, rcp_ne (by omega), rcp_ne (by omega), rcp_ne (by omega), wi_rwo (by omega), wi_rwo (by omega)]
      · rw [← hF, rcp_in hj, rcp_ne (by omega), rcp_ne (by omega), rcp_ne (by omega), rcp_ne (by omega), wi_rwo (by omega), wi_rwo (by omega)]
theorem call_image {x : Nat} {L : LN} {M N0 N : Mem} (h : Rdy x L M N0 N) : CallU x M N (f_X10_image x M) (f_X11_image (x + 95) N0) := by
  obtain ⟨hr, hI, hc0⟩ := h
  have ha := hI.at
  have hI0 := hI
  obtain ⟨a1, a2, a3, a4, a5, a6, a7, ⟨k, b1, b2, b3, b4⟩, a9, ⟨n, nn, c1, c2, c3⟩, ⟨d1, d2, d3⟩, a12⟩ := hI
  obtain ⟨M', e, d, f, s⟩ := c3.copy (t := x + 49) (by omega)
  generalize hF : rcp (rcp (rcp (rcp (rcp (wi (wi (wi N (x + 95) 44 1) (x + 95) 45 (Int32.ofNat n)) (x + 95) 46 (Int32.ofNat nn)) (x + 95 + 8) (x + 95 + 22) 665) (x + 95 + 15) (x + 95 + 23) 26600) (x + 95 + 18) (x + 95 + 24) 8) (x + 95 + 19) (x + 95 + 25) 8) (x + 95 + 7) (x + 95 + 26) 3 = N'
  have g : ∀ b k, ¬ (x + 95 + 22 ≤ b ∧ b ≤ x + 95 + 26) → ¬ (b = x + 95 ∧ (k = 44 ∨ k = 45 ∨ k = 46)) → N'.1 b k = N.1 b k := fun b k h1 h2 => by
    rw [← hF, rcp_ne (by omega), rcp_ne (by omega), rcp_ne (by omega), rcp_ne (by omega), rcp_ne (by omega)]
    simp only [wi]
    rw [if_neg (by omega), if_neg (by omega), if_neg (by omega)]
  have gd : N'.2 = N.2 := by rw [← hF]; rfl
  have gM : ∀ b k, ¬ (x + 49 ≤ b ∧ b < x + 79) → ¬ (b = x ∧ k = 4) → (wi M' x 4 1).1 b k = M.1 b k := fun b k h1 h2 => by
    simp only [wi]
    rw [if_neg h2, f b k (by omega)]
  have gMd : (wi M' x 4 1).2 = M.2 := d
  have hL : lineAt x M := ha
  refine ⟨wi M' x 4 1, N', L, Wp.eq ?_, Wp.eq ?_, ?_, ⟨fun b k hb => gM b k (by omega) (by omega), by rw [gMd]⟩, ⟨fun b k hb => g b k (by omega) (by omega), gd⟩⟩
  · unfold f_X10_image
    exact Wp.cl e (Wp.nam (Wp.ret rfl))
  · unfold f_X11_image
    refine Wp.cl hr (Wp.nam (Wp.nam (Wp.nam ?_)))
    rw [wi_sl (show ¬ 32 = 45 by decide), wi_sl (show ¬ 31 = 44 by decide), wi_sl (show ¬ 32 = 44 by decide), c1, c2]
    refine Wp.cl (e_copyTo (by omega) (by decide)) (Wp.cl (e_copyTo (by omega) (by decide)) (Wp.cl (e_copyTo (by omega) (by decide)) (Wp.cl (e_copyTo (by omega) (by decide)) (Wp.cl (e_copyTo (by omega) (by decide)) ?_))))
    rw [hF]
    exact Wp.ret rfl
  · have hw : (wi M' x 4 1).2.2 0 = M.2.2 0 ∧ (wi M' x 4 1).2.2 1 = M.2.2 1 := by rw [gMd]; exact ⟨rfl, rfl⟩
    refine ⟨a1, by rw [hw.1, hw.2]; exact a2, by rw [hw.1]; exact a3.cg (fun b k hb => gM b k (by unfold lineAt at hL; omega) (by unfold lineAt at hL; omega)), a4.cg (fun b k hb => g b k (by omega) (by omega)) (a4.2.2.2.2.cg (funext fun _ => g _ _ (by omega) (by omega)) (funext fun _ => g _ _ (by omega) (by omega)) (funext fun _ => g _ _ (by omega) (by omega))), by rw [g _ _ (by omega) (by omega)]; exact a5, by rw [g _ _ (by omega) (by omega)]; exact a6, by rw [g _ _ (by omega) (by omega)]; exact a7, ⟨k, b1, by rw [gM _ _ (by omega) (by omega)]; exact b2, by rw [g _ _ (by omega) (by omega)]; exact b3, fun j hj => by rw [gM _ _ (by omega) (by omega), g _ _ (by omega) (by omega)]; exact b4 j hj⟩, by rw [gM _ _ (by omega) (by omega), g _ _ (by omega) (by omega)]; exact a9, ⟨n, nn, by rw [g _ _ (by omega) (by omega)]; exact c1, by rw [g _ _ (by omega) (by omega)]; exact c2, ?_⟩, ⟨?_, Or.inr wi_hit, fun _ => ⟨n, nn, ?_, ?_, ?_⟩⟩, by rw [g _ _ (by omega) (by omega)]; exact a12⟩
    · exact c3.cg (fun b k h1 h2 => gM b k (by omega) (by omega)) (fun j hj => g _ _ (by omega) (by omega)) (fun j hj => g _ _ (by omega) (by omega)) (fun j hj => g _ _ (by omega) (by omega)) (fun j hj => g _ _ (by omega) (by omega)) (fun j hj => g _ _ (by omega) (by omega))
    · rw [wi_hit, ← hF, rcp_ne (by omega), rcp_ne (by omega), rcp_ne (by omega), rcp_ne (by omega), rcp_ne (by omega), wi_sl (by decide), wi_sl (by decide), wi_hit]
    · rw [← hF, rcp_ne (by omega), rcp_ne (by omega), rcp_ne (by omega), rcp_ne (by omega), rcp_ne (by omega), wi_sl (by decide), wi_hit]
    · rw [← hF, rcp_ne (by omega), rcp_ne (by omega), rcp_ne (by omega), rcp_ne (by omega), rcp_ne (by omega), wi_hit]
    · refine s.cg (fun b k h1 h2 => by rw [wi_rwo (show ¬ b = x by omega)]) (fun j hj => ?_) (fun j hj => ?_) (fun j hj => ?_) (fun j hj => ?_) (fun j hj => ?_)
      · rw [← hF, rcp_ne (by omega), rcp_ne (by omega), rcp_ne (by omega), rcp_ne (by omega), rcp_in hj, wi_rwo (by omega), wi_rwo (by omega), wi_rwo (by omega)]
      · rw [← hF, rcp_ne (by omega), rcp_ne (by omega), rcp_ne (by omega), rcp_in hj, rcp_ne (by omega), wi_rwo (by omega), wi_rwo (by omega), wi_rwo (by omega)]
      · rw [← hF, rcp_ne (by omega), rcp_ne (by omega), rcp_in hj, rcp_ne (by omega), rcp_ne (by omega), wi_rwo (by omega), wi_rwo (by omega), wi_rwo (by omega)]
      · rw [← hF, rcp_ne (by omega), rcp_in hj, rcp_ne (by omega), rcp_ne (by omega), rcp_ne (by omega), wi_rwo (by omega), wi_rwo (by omega), wi_rwo (by omega)]
      · rw [← hF, rcp_in hj, rcp_ne (by omega), rcp_ne (by omega), rcp_ne (by omega), rcp_ne (by omega), wi_rwo (by omega), wi_rwo (by omega), wi_rwo (by omega)]
