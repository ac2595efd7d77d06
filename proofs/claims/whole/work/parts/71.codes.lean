/-! The reader: codes; where nothing is read any more -/
def RX (x sp i : Nat) (cs : List Int32) (M N : Mem) : Prop := i ≤ 1 ∧ (sp = x + 3 ∨ sp = x + 11) ∧ M.2.2 2 = sp + 2 + 3 * i ∧ Rul M (sp + 2 + 3 * i) cs ∧ N.1 (x + 95) 10 = Int32.ofNat i ∧ N.1 (x + 95 + 3) (18 + i) = Int32.ofNat cs.length ∧ ∀ j, j < cs.length → N.1 (x + 95 + 5 + i) (700 + j) = trS (cs.getD j 0)
def frE (x sp i : Nat) (M M' : Mem) : Prop := (∀ b k, ¬ (b = x + 1 ∧ (k = 3 ∨ k = 4 ∨ k = 5 ∨ k = 6 ∨ k = 7)) → ¬ (b = sp + 2 + 3 * i ∧ k = 1) → ¬ b = sp + 3 + 3 * i → M'.1 b k = M.1 b k) ∧ M'.2 = M.2
def frG (t i : Nat) (N N' : Mem) : Prop := (∀ b k, ¬ (b = t ∧ (k = 13 ∨ k = 15 ∨ k = 16 ∨ k = 17 ∨ k = 18 ∨ k = 19 ∨ k = 20)) → ¬ (b = t + 3 ∧ k = 18 + i) → ¬ (b = t + 5 + i ∧ 700 ≤ k) → N'.1 b k = N.1 b k) ∧ N'.2 = N.2
theorem frE.rf {x sp i : Nat} {M : Mem} : frE x sp i M M := ⟨fun _ _ _ _ _ => rfl, rfl⟩
theorem frG.rf {t i : Nat} {M : Mem} : frG t i M M := ⟨fun _ _ _ _ _ => rfl, rfl⟩
theorem frE.tr {x sp i : Nat} {M M1 M2 : Mem} (h1 : frE x sp i M M1) (h2 : frE x sp i M1 M2) : frE x sp i M M2 := ⟨fun b k a1 a2 a3 => (h2.1 b k a1 a2 a3).trans (h1.1 b k a1 a2 a3), h2.2.trans h1.2⟩
theorem frG.tr {t i : Nat} {M M1 M2 : Mem} (h1 : frG t i M M1) (h2 : frG t i M1 M2) : frG t i M M2 := ⟨fun b k a1 a2 a3 => (h2.1 b k a1 a2 a3).trans (h1.1 b k a1 a2 a3), h2.2.trans h1.2⟩
theorem frR.E {x sp i : Nat} {M M' : Mem} (h : frR x M M') : frE x sp i M M' := ⟨fun b k a _ _ => h.1 b k a, h.2⟩
theorem frT.G {t i : Nat} {M M' : Mem} (h : frT t M M') : frG t i M M' := ⟨fun b k a _ _ => h.1 b k a, h.2⟩
theorem RX.cg {x sp i : Nat} {cs : List Int32} {M N M' N' : Mem} (h : RX x sp i cs M N) (hM : frR x M M') (hN : frT (x + 95) N N') : RX x sp i cs M' N' := by
  obtain ⟨h1, h2, h3, ⟨h4, h5, h6⟩, h7, h8, h9⟩ := h
  exact ⟨h1, h2, by rw [hM.2]; exact h3, ⟨by rw [hM.1 _ _ (by omega)]; exact h4, h5, fun j hj => by rw [hM.1 _ _ (by omega)]; exact h6 j hj⟩, by rw [hN.1 _ _ (by omega)]; exact h7, by rw [hN.1 _ _ (by omega)]; exact h8, fun j hj => by rw [hN.1 _ _ (by omega)]; exact h9 j hj⟩
theorem LV.cg {x : Nat} {tp : Nat → Int32} {len st pos : Nat} {kd : Int32} {M N M' N' : Mem} (h : LV x tp len st pos kd M N) (hM : ∀ b k, b = x + 1 ∨ b = x + 2 → M'.1 b k = M.1 b k) (hN : ∀ b k, (b = x + 95 ∧ ¬ k = 10) ∨ b = x + 95 + 9 → N'.1 b k = N.1 b k) : LV x tp len st pos kd M' N' := by
  obtain ⟨⟨h1, h2, h3, h4⟩, ⟨g1, g2, g3, g4, g5, g6⟩, h5, h6, h7⟩ := h
  exact ⟨⟨h1.cg (hM _ _ (Or.inl rfl)) (funext fun _ => hM _ _ (Or.inr rfl)) (hM _ _ (Or.inl rfl)), by rw [hM _ _ (Or.inl rfl)]; exact h2, by rw [hM _ _ (Or.inl rfl)]; exact h3, by rw [hM _ _ (Or.inl rfl)]; exact h4⟩, ⟨g1.cg (hN _ _ (by omega)) (funext fun _ => hN _ _ (by omega)), by rw [hN _ _ (by omega)]; exact g2, by rw [hN _ _ (by omega)]; exact g3, by rw [hN _ _ (by omega)]; exact g4, by rw [hN _ _ (by omega)]; exact g5, fun e => by rw [hN _ _ (by omega)]; exact g6 e⟩, by rw [hM _ _ (Or.inl rfl)]; exact h5, by rw [hN _ _ (by omega)]; exact h6, h7⟩
theorem DD.cg {x : Nat} {f p : Int32} {M N M' N' : Mem} (h : DD x f p M N) (hM : ∀ k, k = 5 ∨ k = 6 ∨ k = 7 → M'.1 (x + 1) k = M.1 (x + 1) k) (hN : ∀ k, k = 19 ∨ k = 20 → N'.1 (x + 95) k = N.1 (x + 95) k) : DD x f p M' N' := by
  obtain ⟨h1, h2, h3, h4, h5, h6⟩ := h
  exact ⟨h1, by rw [hM _ (by omega)]; exact h2, by rw [hM _ (by omega)]; exact h3, by rw [hM _ (by omega)]; exact h4, by rw [hN _ (by omega)]; exact h5, by rw [hN _ (by omega)]; exact h6⟩
/-- a code is added -/
theorem add_any {x sp i : Nat} {u : Int32} {M : Mem} (hi : i ≤ 1) (hsp : sp = x + 3 ∨ sp = x + 11) (h2 : M.2.2 2 = sp + 2 + 3 * i) : ∃ M', f_X7_add (M.2.2 2) u M = some ((), M') ∧ frE x sp i M M' ∧ (∀ k, M'.1 (x + 1) k = M.1 (x + 1) k) := by
  rw [h2]
  refine ⟨wi (aput M (sp + 2 + 3 * i + 1) 700 (M.1 (sp + 2 + 3 * i) 1) u) (sp + 2 + 3 * i) 1 ((aput M (sp + 2 + 3 * i + 1) 700 (M.1 (sp + 2 + 3 * i) 1) u).1 (sp + 2 + 3 * i) 1 + 1), Wp.eq ?_, ⟨fun b k a1 a2 a3 => ?_, ?_⟩, fun k => ?_⟩
  · unfold f_X7_add
    exact Wp.cl (e_put _ (by decide)) (Wp.nam (Wp.ret rfl))
  · have : ∀ M0 : Mem, (aput M (sp + 2 + 3 * i + 1) 700 (M.1 (sp + 2 + 3 * i) 1) u) = M0 → (wi M0 (sp + 2 + 3 * i) 1 (M0.1 (sp + 2 + 3 * i) 1 + 1)).1 b k = M0.1 b k := fun M0 _ => by
      simp only [wi]
      rw [if_neg a2]
    rw [this _ rfl]
    unfold aput
    split
    · rfl
    · split
      · rfl
      · rw [wi_rwo (by omega)]
  · show (aput M (sp + 2 + 3 * i + 1) 700 (M.1 (sp + 2 + 3 * i) 1) u).2 = M.2
    unfold aput
    split
    · rfl
    · split <;> rfl
  · rw [wi_rwo (by omega)]
    unfold aput
    split
    · rfl
    · split
      · rfl
      · rw [wi_rwo (by omega)]
theorem RX.gd {x sp i : Nat} {cs : List Int32} {M N : Mem} (h : RX x sp i cs M N) : M.2.2 2 = x + 1 + 4 ∨ M.2.2 2 = x + 1 + 7 ∨ M.2.2 2 = x + 1 + 12 ∨ M.2.2 2 = x + 1 + 15 := by
  obtain ⟨h1, h2, h3, _⟩ := h
  omega
theorem add_lay {x sp i : Nat} {u : Int32} {tp : Nat → Int32} {len st pos : Nat} {kd : Int32} {cs : List Int32} {M N : Mem} (h : LV x tp len st pos kd M N) (hR : RX x sp i cs M N) (hc : cs.length < 700) : ∃ M' N', f_X7_add (M.2.2 2) u M = some ((), M') ∧ f_X11_lay (x + 95) (trS u) N = some ((), N') ∧ LV x tp len st pos kd M' N' ∧ RX x sp i (cs ++ [u]) M' N' ∧ frE x sp i M M' ∧ frG (x + 95) i N N' := by
  obtain ⟨h1, h2, h3, ⟨h4, h5, h6⟩, h7, h8, h9⟩ := hR
  have hlen : (cs ++ [u]).length = cs.length + 1 := by simp
  have gl : ∀ j, j < cs.length → (cs ++ [u]).getD j 0 = cs.getD j 0 := fun j hj => by
    simp [List.getD, List.getElem?_append_left hj]
  have gr : (cs ++ [u]).getD cs.length 0 = u := by simp [List.getD]
  have e18 : (if i = 0 then (8 : Int32) else 9) + 0 = Int32.ofNat (8 + i) := by
    have : i = 0 ∨ i = 1 := by omega
    rcases this with e | e <;> subst e <;> decide
  have y2 : ∀ z : Int32, z = (if i = 0 then (8 : Int32) else 9) → (10 : Int32) + z = Int32.ofNat (18 + i) := fun z hz => by
    subst hz
    have : i = 0 ∨ i = 1 := by omega
    rcases this with e | e <;> subst e <;> decide
  generalize hM' : wi (wi M (sp + 2 + 3 * i + 1) cs.length u) (sp + 2 + 3 * i) 1 (Int32.ofNat (cs.length + 1)) = M'
  generalize hN' : wi (wi N (x + 95 + 5 + i) (700 + cs.length) (trS u)) (x + 95 + 3) (18 + i) (Int32.ofNat (cs.length + 1)) = N'
  have fM : ∀ b k, ¬ (b = sp + 2 + 3 * i ∧ k = 1) → ¬ (b = sp + 3 + 3 * i ∧ k = cs.length) → M'.1 b k = M.1 b k := fun b k a1 a2 => by
    rw [← hM']
    simp only [wi]
    rw [if_neg (by omega), if_neg (by omega)]
  have fN : ∀ b k, ¬ (b = x + 95 + 3 ∧ k = 18 + i) → ¬ (b = x + 95 + 5 + i ∧ k = 700 + cs.length) → N'.1 b k = N.1 b k := fun b k a1 a2 => by
    rw [← hN']
    simp only [wi]
    rw [if_neg (by omega), if_neg (by omega)]
  refine ⟨M', N', Wp.eq ?_, Wp.eq ?_, h.cg (fun b k hb => fM _ _ (by omega) (by omega)) (fun b k hb => fN _ _ (by omega) (by omega)), ⟨h1, h2, by rw [← hM']; exact h3, ⟨?_, by rw [hlen]; omega, fun j hj => ?_⟩, by rw [fN _ _ (by omega) (by omega)]; exact h7, ?_, fun j hj => ?_⟩, ⟨fun b k _ a2 a3 => fM _ _ a2 (by omega), by rw [← hM']; rfl⟩, ⟨fun b k _ a2 a3 => fN _ _ a2 (by omega), by rw [← hN']; rfl⟩⟩
  · rw [h3]
    unfold f_X7_add
    rw [h4]
    refine Wp.cl (put_nat hc (by decide)) (Wp.nam ?_)
    rw [wi_rwo (by omega), h4, i_ad1]
    have hM2 : wi (wi M (sp + 2 + 3 * i + 1) cs.length u) (sp + 2 + 3 * i) 1 (Int32.ofNat (cs.length + 1)) = M' := hM'
    rw [hM2]
    exact Wp.ret rfl
  · unfold f_X11_lay
    refine Wp.ps h.2.2.2.1 (Wp.j1 ?_)
    have e700 : (700 : Int32) + Int32.ofNat cs.length = Int32.ofNat (700 + cs.length) := i_ad' 700 _
    have last : Wp (gdi (Int32.ofNat (18 + i)) 20 (gdi (Int32.ofNat (18 + i)) 20 (nm (wi (wi N (x + 95 + 5 + i) (700 + cs.length) (trS u)) (x + 95 + 3) (Int32.ofNat (18 + i)).toNatClampNeg (((wi N (x + 95 + 5 + i) (700 + cs.length) (trS u)).1 (x + 95 + 3) (Int32.ofNat (18 + i)).toNatClampNeg) + (1 : Int32))) (fun M4 => some ((), M4))))) (fun q => q = ((), N')) := by
      refine Wp.gi (i_rng (by omega) (by decide)) (Wp.gi (i_rng (by omega) (by decide)) (Wp.nam ?_))
      rw [i_nn (by omega), wi_rwo (by omega), h8, i_ad1, hN']
      exact Wp.ret rfl
    have hi : i = 0 ∨ i = 1 := by omega
    rcases hi with e | e
    · subst e
      refine Wp.ps h7 (Wp.nam (Wp.j1 (Wp.ps h7 ?_)))
      have e18 : (10 : Int32) + 8 = Int32.ofNat (18 + 0) := by decide
      rw [e18]
      refine Wp.gi (i_rng (by omega) (by decide)) ?_
      rw [i_nn (by omega), h8, e700]
      refine Wp.gi (i_rng (by omega) (by decide)) (Wp.nam ?_)
      rw [i_nn (by omega)]
      rw [i_nn (by omega)] at last
      exact last
    · subst e
      have n7 : ¬ N.1 (x + 95) 10 = 0 := by rw [h7]; decide
      refine Wp.ng n7 (Wp.nam (Wp.j1 (Wp.ng n7 ?_)))
      have e18 : (10 : Int32) + 9 = Int32.ofNat (18 + 1) := by decide
      rw [e18]
      refine Wp.gi (i_rng (by omega) (by decide)) ?_
      rw [i_nn (by omega), h8, e700]
      refine Wp.gi (i_rng (by omega) (by decide)) (Wp.nam ?_)
      rw [i_nn (by omega)]
      rw [i_nn (by omega)] at last
      exact last
  · rw [← hM', wi_hit, hlen]
  · by_cases e : j < cs.length
    · rw [fM _ _ (by omega) (by omega), gl j e]
      exact h6 j e
    · have : j = cs.length := by omega
      subst this
      rw [gr, ← hM', wi_rwo (by omega), wi_hit]
  · rw [← hN', wi_hit, hlen]
  · by_cases e : j < cs.length
    · rw [fN _ _ (by omega) (by omega), gl j e]
      exact h9 j e
    · have : j = cs.length := by omega
      subst this
      rw [gr, ← hN', wi_rwo (by omega), wi_hit]
