/-! The reader: not, less, equal -/
theorem notW {x : Nat} {v k : Int32} {M M1 : Mem} (hw : f_X6_isWord (x + 1) 31 M = some (v, M)) (h : (v = 0 ∧ M1 = M) ∨ (¬ v = 0 ∧ f_X6_fail (x + 1) 2 M = some ((), M1))) : Wp (bd (f_X6_isWord (x + 1) 31 M) (fun u4 M5 => jn1 (fun M6 => some (.inr (k, M6))) (fun J41 => if u4 = 0 then (J41 M5) else (bd (f_X6_fail (x + 1) (2 : Int32) M5) (fun _ M8 => J41 M8))))) (fun q => q = (.inr (k, M1) : (Int32 × Mem) ⊕ (Int32 × Mem))) := by
  refine Wp.cl hw (Wp.j1 ?_)
  rcases h with ⟨h, e⟩ | ⟨h, e⟩
  · subst e
    exact Wp.ps h (Wp.ret rfl)
  · exact Wp.ng h (Wp.cl e (Wp.ret rfl))
theorem nots_ok {x fs len : Nat} {e : Int32} {tp : Nat → Int32} : ∀ (m k fc : Nat) (M N : Mem) (st pos : Nat) (kd : Int32), k + m = 6 → m < fc → LV x tp len st pos kd M N → ∃ n M' N', k ≤ n ∧ n ≤ 6 ∧ lop2 fc (l_X6_readNots_2 (x + 1)) (Int32.ofNat k) M = some (Int32.ofNat n, M') ∧ frR x M M' ∧ frT (x + 95) N N' ∧ ((∃ st' pos' kd', LV x tp len st' pos' kd' M' N' ∧ st + (n - k) ≤ st' ∧ f_X11_is (x + 95) 15 N' = some (0, N') ∧ ∀ fm, lop2 (fm + (n - k)) (l_X11_readNot_2 (x + 95) e (f_X11_readSum (fs + 3))) (Int32.ofNat k) N = lop2 fm (l_X11_readNot_2 (x + 95) e (f_X11_readSum (fs + 3))) (Int32.ofNat n) N') ∨ (∃ f p, DD x f p M' N' ∧ ∀ fm, lop2 (fm + (8 - k)) (l_X11_readNot_2 (x + 95) e (f_X11_readSum (fs + 3))) (Int32.ofNat k) N = some ((), N'))) := by
  intro m
  induction m with
  | zero =>
    intro k fc M N st pos kd hk hf hL
    obtain ⟨fc, rfl⟩ : ∃ q, fc = q + 1 := ⟨fc - 1, by omega⟩
    obtain rfl : k = 6 := by omega
    obtain ⟨v, w1, w2, w3⟩ := hL.word (s := 15) (by decide)
    have w1' : f_X6_isWord (x + 1) 31 M = some (v, M) := w1
    rcases w3 with ⟨hv, _⟩ | ⟨hv, _⟩ <;> subst hv
    · obtain ⟨M', N', f1, f2, hD, fR, fT⟩ := hL.fail (f := 2) (by decide)
      refine ⟨6, M', N', Nat.le_refl _, Nat.le_refl _, lop2_inr (Wp.eq ?_), fR, fT, Or.inr ⟨2, _, hD, fun fm => ?_⟩⟩
      · unfold l_X6_readNots_2
        exact Wp.j1 (Wp.ps (by decide) (notW w1' (Or.inr ⟨by decide, f1⟩)))
      · have b1 : l_X11_readNot_2 (x + 95) e (f_X11_readSum (fs + 3)) (Int32.ofNat 6) N = some (.inl (Int32.ofNat 7, N')) := by
          refine Wp.eq ?_
          unfold l_X11_readNot_2
          exact Wp.cl w2 (Wp.ng (by decide) (Wp.j1 (Wp.ps rfl (Wp.cl f2 (Wp.nam (Wp.ng hD.n19 (Wp.ret rfl)))))))
        show lop2 (fm + 1 + 1) _ _ _ = _
        exact (lop2_inl b1).trans (lop2_inr (dNotL hD.n19 (by decide)))
    · refine ⟨6, M, N, Nat.le_refl _, Nat.le_refl _, lop2_inr (Wp.eq ?_), frR.rf, frT.rf, Or.inl ⟨st, pos, kd, hL, by omega, w2, fun fm => rfl⟩⟩
      unfold l_X6_readNots_2
      exact Wp.j1 (Wp.ps (by decide) (notW w1' (Or.inl ⟨rfl, rfl⟩)))
  | succ m ih =>
    intro k fc M N st pos kd hk hf hL
    obtain ⟨fc, rfl⟩ : ∃ q, fc = q + 1 := ⟨fc - 1, by omega⟩
    obtain ⟨v, w1, w2, w3⟩ := hL.word (s := 15) (by decide)
    have w1' : f_X6_isWord (x + 1) 31 M = some (v, M) := w1
    have n6 : ¬ (6 : Int32) ≤ Int32.ofNat k := fun g => by
      have := (i_le (a := 6) (b := k) (by omega) (by omega)).mp g
      omega
    have ne6 : ¬ Int32.ofNat k = 6 := fun g => by
      have := congrArg Int32.toInt g
      rw [ti_nat (by omega)] at this
      have e6 : (6 : Int32).toInt = 6 := rfl
      omega
    rcases w3 with ⟨hv, hkd, _⟩ | ⟨hv, _⟩ <;> subst hv
    · have hle := hL.le
      have hsp := hle.2.2.2 (by rw [hkd]; decide)
      obtain ⟨st1, pos1, kd1, M1, N1, a1, a2, hL1, hp1, fR, fT⟩ := hL.adv
      have b1 : l_X6_readNots_2 (x + 1) (Int32.ofNat k) M = some (.inl (Int32.ofNat (k + 1), M1)) := by
        refine Wp.eq ?_
        unfold l_X6_readNots_2
        refine Wp.j1 (Wp.ng n6 (Wp.cl w1' (Wp.ng (by decide) (Wp.cl a1 (Wp.nam ?_)))))
        rw [i_ad1]
        exact Wp.ret rfl
      have b2 : l_X11_readNot_2 (x + 95) e (f_X11_readSum (fs + 3)) (Int32.ofNat k) N = some (.inl (Int32.ofNat (k + 1), N1)) := by
        refine Wp.eq ?_
        unfold l_X11_readNot_2
        refine Wp.cl w2 (Wp.ng (by decide) (Wp.j1 (Wp.ng ne6 (Wp.nam (Wp.ps hL.2.2.2.1 (Wp.cl a2 ?_))))))
        rw [i_ad1]
        exact Wp.ret rfl
      obtain ⟨n, M', N', c1, c2, c3, c4, c5, c6⟩ := ih (k + 1) fc M1 N1 st1 pos1 kd1 (by omega) (by omega) hL1
      refine ⟨n, M', N', by omega, c2, (lop2_inl b1).trans c3, fR.tr c4, fT.tr c5, ?_⟩
      rcases c6 with ⟨st', pos', kd', d1, d2, d3, d4⟩ | ⟨f, p, d1, d2⟩
      · refine Or.inl ⟨st', pos', kd', d1, by omega, d3, fun fm => ?_⟩
        have : fm + (n - k) = fm + (n - (k + 1)) + 1 := by omega
        rw [this]
        exact (lop2_inl b2).trans (d4 fm)
      · refine Or.inr ⟨f, p, d1, fun fm => ?_⟩
        have : fm + (8 - k) = fm + (8 - (k + 1)) + 1 := by omega
        rw [this]
        exact (lop2_inl b2).trans (d2 fm)
    · refine ⟨k, M, N, Nat.le_refl _, by omega, lop2_inr (Wp.eq ?_), frR.rf, frT.rf, Or.inl ⟨st, pos, kd, hL, by omega, w2, fun fm => by rw [Nat.sub_self]; rfl⟩⟩
      unfold l_X6_readNots_2
      exact Wp.j1 (Wp.ng n6 (Wp.cl w1' (Wp.ps rfl (notW w1' (Or.inl ⟨rfl, rfl⟩)))))
theorem nadd_ok {x sp i n : Nat} {tp : Nat → Int32} {len st pos : Nat} {kd : Int32} (hn : n ≤ 6) : ∀ (m k fc fm : Nat) (M N : Mem) (cs : List Int32), k + m = n → m < fc → m < fm → LV x tp len st pos kd M N → RX x sp i cs M N → cs.length + m ≤ 700 → ∃ M' N', lop2 fc (l_X6_readExpr_102 (x + 1) (Int32.ofNat n)) (Int32.ofNat k) M = some (.inr ((), M')) ∧ lop2 fm (l_X11_readNot_95 (x + 95) (Int32.ofNat n)) (Int32.ofNat k) N = some (.inr ((), N')) ∧ LV x tp len st pos kd M' N' ∧ RX x sp i (cs ++ List.replicate m (-5)) M' N' ∧ frE x sp i M M' ∧ frG (x + 95) i N N' := by
  intro m
  induction m with
  | zero =>
    intro k fc fm M N cs hk h1 h2 hL hR hc
    obtain ⟨fc, rfl⟩ : ∃ q, fc = q + 1 := ⟨fc - 1, by omega⟩
    obtain ⟨fm, rfl⟩ : ∃ q, fm = q + 1 := ⟨fm - 1, by omega⟩
    have hle : Int32.ofNat n ≤ Int32.ofNat k := (i_le (by omega) (by omega)).mpr (by omega)
    refine ⟨M, N, lop2_inr (Wp.eq ?_), lop2_inr (Wp.eq ?_), hL, by simpa using hR, frE.rf, frG.rf⟩
    · unfold l_X6_readExpr_102
      exact Wp.ps hle (Wp.ret rfl)
    · unfold l_X11_readNot_95
      exact Wp.ps hle (Wp.ret rfl)
  | succ m ih =>
    intro k fc fm M N cs hk h1 h2 hL hR hc
    obtain ⟨fc, rfl⟩ : ∃ q, fc = q + 1 := ⟨fc - 1, by omega⟩
    obtain ⟨fm, rfl⟩ : ∃ q, fm = q + 1 := ⟨fm - 1, by omega⟩
    have hlt : ¬ Int32.ofNat n ≤ Int32.ofNat k := i64_lt (by omega) (by omega)
    obtain ⟨M1, N1, a1, a2, hL1, hR1, f1, g1⟩ := add_lay (u := -5) hL hR (by omega)
    have htr : trS (-5) = -28 := by decide
    rw [htr] at a2
    have b1 : l_X6_readExpr_102 (x + 1) (Int32.ofNat n) (Int32.ofNat k) M = some (.inl (Int32.ofNat (k + 1), M1)) := by
      refine Wp.eq ?_
      unfold l_X6_readExpr_102
      refine Wp.ng hlt (Wp.gp hR.gd (Wp.cl a1 (Wp.nam ?_)))
      rw [i_ad1]
      exact Wp.ret rfl
    have b2 : l_X11_readNot_95 (x + 95) (Int32.ofNat n) (Int32.ofNat k) N = some (.inl (Int32.ofNat (k + 1), N1)) := by
      refine Wp.eq ?_
      unfold l_X11_readNot_95
      refine Wp.ng hlt (Wp.cl a2 (Wp.nam ?_))
      rw [i_ad1]
      exact Wp.ret rfl
    obtain ⟨M2, N2, r1, r2, r3, r4, r5, r6⟩ := ih (k + 1) fc fm M1 N1 (cs ++ [-5]) (by omega) (by omega) (by omega) hL1 hR1 (by simp; omega)
    have hrep : cs ++ [-5] ++ List.replicate m (-5) = cs ++ List.replicate (m + 1) (-5) := by
      rw [List.append_assoc]
      rfl
    rw [hrep] at r4
    exact ⟨M2, N2, (lop2_inl b1).trans r1, (lop2_inl b2).trans r2, r3, r4, f1.tr r5, g1.tr r6⟩
theorem nadd_dead {x sp i n : Nat} (hi : i ≤ 1) (hsp : sp = x + 3 ∨ sp = x + 11) (hn : n ≤ 6) : ∀ (m k fc : Nat) (M : Mem), k + m = n → m < fc → M.2.2 2 = sp + 2 + 3 * i → ∃ M', lop2 fc (l_X6_readExpr_102 (x + 1) (Int32.ofNat n)) (Int32.ofNat k) M = some (.inr ((), M')) ∧ frE x sp i M M' ∧ (∀ k, M'.1 (x + 1) k = M.1 (x + 1) k) := by
  intro m
  induction m with
  | zero =>
    intro k fc M hk h1 h2
    obtain ⟨fc, rfl⟩ : ∃ q, fc = q + 1 := ⟨fc - 1, by omega⟩
    refine ⟨M, lop2_inr (Wp.eq ?_), frE.rf, fun _ => rfl⟩
    unfold l_X6_readExpr_102
    exact Wp.ps ((i_le (by omega) (by omega)).mpr (by omega)) (Wp.ret rfl)
  | succ m ih =>
    intro k fc M hk h1 h2
    obtain ⟨fc, rfl⟩ : ∃ q, fc = q + 1 := ⟨fc - 1, by omega⟩
    obtain ⟨M1, a1, f1, g1⟩ := add_any (u := -5) hi hsp h2
    have b1 : l_X6_readExpr_102 (x + 1) (Int32.ofNat n) (Int32.ofNat k) M = some (.inl (Int32.ofNat (k + 1), M1)) := by
      refine Wp.eq ?_
      unfold l_X6_readExpr_102
      refine Wp.ng (i64_lt (by omega) (by omega)) (Wp.gp (by omega) (Wp.cl a1 (Wp.nam ?_)))
      rw [i_ad1]
      exact Wp.ret rfl
    obtain ⟨M2, r1, r2, r3⟩ := ih (k + 1) fc M1 (by omega) (by omega) (by rw [f1.2]; exact h2)
    exact ⟨M2, (lop2_inl b1).trans r1, f1.tr r2, fun k => (r3 k).trans (g1 k)⟩
theorem dpl_nots {d : Nat} : ∀ m, dpl (List.replicate m (-5)) (d + 1) = some (d + 1)
  | 0 => rfl
  | m + 1 => by
    show dpl (-5 :: List.replicate m (-5)) (d + 1) = some (d + 1)
    unfold dpl
    rw [if_pos (by decide), if_pos rfl, if_pos (by omega)]
    exact dpl_nots m
