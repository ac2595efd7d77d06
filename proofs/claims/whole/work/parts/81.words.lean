/-! The reader: the words of a line -/
theorem spgd {x sp : Nat} {M : Mem} (hs : sp = x + 3 ∨ sp = x + 11) (h : M.2.2 1 = sp) : M.2.2 1 = x + 1 + 2 ∨ M.2.2 1 = x + 1 + 10 := by
  rw [h]
  omega
theorem SR.next {x sp : Nat} {tp : Nat → Int32} {len st0 st1 : Nat} {L L1 : LN} {M0 N0 M1 N1 M N : Mem} (f : frL x sp M0 M1) (g : frK (x + 95) N0 N1) (hst : st0 ≤ st1) (hL : L1.2.2 = L.2.2) (h : SR x sp tp len st1 L1 M1 N1 M N) : SR x sp tp len st0 L M0 N0 M N := by
  refine ⟨f.tr h.1, g.tr h.2.1, ?_⟩
  rcases h.2.2 with ⟨st, pos, kd, L', a, b, c, d, e⟩ | h
  · exact Or.inl ⟨st, pos, kd, L', a, b, c, d.trans hL, by omega⟩
  · exact Or.inr h
/-- one word is kept: the i-th -/
theorem LG.wordset {x sp i : Nat} {v : Int32} {L : LN} {M N : Mem} (h : LG x sp L M N) (hi : i < 16) (h7 : i = 0 ∨ (L.1 7).toInt = (i : Int)) : LG x sp (rup L.1 7 (Int32.ofNat (i + 1)), rup L.2.1 i v, L.2.2) (wi (wi M (sp + 1) i v) sp 7 (Int32.ofNat (i + 1))) (wi (wi N (x + 95 + 4) (16 + i) v) (x + 95 + 3) 17 (Int32.ofNat (i + 1))) := by
  obtain ⟨h1, h2, ⟨a1, a2, a3⟩, ⟨b1, b2, b3⟩, ⟨c1, c2⟩, ⟨d1, d2⟩⟩ := h
  refine ⟨fun j hj => ?_, fun j hj => ?_, ⟨?_, a2, fun j hj => ?_⟩, ⟨?_, b2, fun j hj => ?_⟩, ⟨?_, fun j hj => ?_⟩, ⟨?_, fun j hj => ?_⟩⟩
  · by_cases e : j = 7
    · subst e
      rw [wi_hit, wi_hit]
      simp [rup]
    · rw [wi_sl e, wi_rwo (by omega), wi_sl (by omega), wi_rwo (by omega), show (rup L.1 7 (Int32.ofNat (i + 1)), rup L.2.1 i v, L.2.2).1 j = L.1 j from rup_o e]
      exact h1 j hj
  · have e7 : ((rup L.1 7 (Int32.ofNat (i + 1)), rup L.2.1 i v, L.2.2) : LN).1 7 = Int32.ofNat (i + 1) := by
      show rup L.1 7 (Int32.ofNat (i + 1)) 7 = _
      exact rup_s
    rw [e7, ti_nat (by omega)] at hj
    have hm : (wi (wi M (sp + 1) i v) sp 7 (Int32.ofNat (i + 1))).1 (sp + 1) j = (wi M (sp + 1) i v).1 (sp + 1) j := by rw [wi_rwo (by omega)]
    have hn : (wi (wi N (x + 95 + 4) (16 + i) v) (x + 95 + 3) 17 (Int32.ofNat (i + 1))).1 (x + 95 + 4) (16 + j) = (wi N (x + 95 + 4) (16 + i) v).1 (x + 95 + 4) (16 + j) := by rw [wi_rwo (by omega)]
    rw [hm, hn]
    by_cases e : j = i
    · subst e
      rw [wi_hit, wi_hit]
      simp [rup]
    · rw [wi_sl e, wi_sl (by omega), show (rup L.1 7 (Int32.ofNat (i + 1)), rup L.2.1 i v, L.2.2).2.1 j = L.2.1 j from rup_o e]
      exact h2 j (by omega)
  · rw [wi_rwo (by omega), wi_rwo (by omega)]; exact a1
  · rw [wi_rwo (by omega), wi_rwo (by omega)]; exact a3 j hj
  · rw [wi_rwo (by omega), wi_rwo (by omega)]; exact b1
  · rw [wi_rwo (by omega), wi_rwo (by omega)]; exact b3 j hj
  · rw [wi_sl (by omega), wi_rwo (by omega)]; exact c1
  · rw [wi_rwo (by omega), wi_rwo (by omega)]; exact c2 j hj
  · rw [wi_sl (by omega), wi_rwo (by omega)]; exact d1
  · rw [wi_rwo (by omega), wi_rwo (by omega)]; exact d2 j hj
theorem LWf.word {L : LN} {i : Nat} {v : Int32} (h : LWf L) (hi : i < 16) : LWf (rup L.1 7 (Int32.ofNat (i + 1)), rup L.2.1 i v, L.2.2) := by
  obtain ⟨h1, h2, h3, h4, h5, h6, h7⟩ := h
  have e : ∀ j, ((rup L.1 7 (Int32.ofNat (i + 1)), rup L.2.1 i v, L.2.2) : LN).1 j = if j = 7 then Int32.ofNat (i + 1) else L.1 j := fun j => rfl
  exact ⟨by rw [e, if_neg (by decide)]; exact h1, by rw [e, if_neg (by decide)]; exact h2, by rw [e, if_neg (by decide)]; exact h3, by rw [e, if_pos rfl, ti_nat (by omega)]; omega, by rw [e, if_neg (by decide)]; exact h5, h6, h7⟩
/-- one round of the model's words, where a number may be had -/
theorem mword_live {x i : Nat} {N N1 : Mem} {w : Int32} (hi : i < 16) (h17 : N.1 (x + 95 + 3) 17 = Int32.ofNat i) (hr : f_X11_readNumber (x + 95) 0 255 N = some (w, N1)) (h1 : N1.1 (x + 95) 19 = 0) (h1' : N1.1 (x + 95 + 3) 17 = Int32.ofNat i) : l_X11_readWord_8 (x + 95) N = some (if N1.1 (x + 95) 15 = 2 then .inl (wi (wi N1 (x + 95 + 4) (16 + i) w) (x + 95 + 3) 17 (Int32.ofNat (i + 1))) else .inr ((), wi (wi N1 (x + 95 + 4) (16 + i) w) (x + 95 + 3) 17 (Int32.ofNat (i + 1)))) := by
  have n16 : ¬ N.1 (x + 95 + 3) 17 = 16 := fun q => by
    rw [h17] at q
    have := congrArg Int32.toInt q
    rw [ti_nat (by omega)] at this
    have e16 : (16 : Int32).toInt = 16 := rfl
    omega
  have e16 : (16 : Int32) + N1.1 (x + 95 + 3) 17 = Int32.ofNat (16 + i) := by rw [h1']; exact i_ad' 16 i
  have last : Wp (bd (f_X11_readNumber (x + 95) (0 : Int32) (255 : Int32) N) (fun u4 M5 => jn1 (fun M6 => jn0 (fun _ => some (.inr ((), M6))) (fun J98 => if (M6.1 (x + 95) 19) = 0 then (if (M6.1 (x + 95) 15) = (2 : Int32) then (some (.inl M6)) else (J98 ())) else (J98 ()))) (fun J83 => if (M5.1 (x + 95) 19) = 0 then (gdi ((16 : Int32) + (M5.1 (x + 95 + 3) 17)) 32 (nm (wi M5 (x + 95 + 4) ((16 : Int32) + (M5.1 (x + 95 + 3) 17)).toNatClampNeg u4) (fun M7 => nm (wi M7 (x + 95 + 3) 17 ((M7.1 (x + 95 + 3) 17) + (1 : Int32))) (fun M8 => J83 M8)))) else (J83 M5)))) (fun q => q = if N1.1 (x + 95) 15 = 2 then (.inl (wi (wi N1 (x + 95 + 4) (16 + i) w) (x + 95 + 3) 17 (Int32.ofNat (i + 1))) : Mem ⊕ (Unit × Mem)) else .inr ((), wi (wi N1 (x + 95 + 4) (16 + i) w) (x + 95 + 3) 17 (Int32.ofNat (i + 1)))) := by
    refine Wp.cl hr (Wp.j1 (Wp.ps h1 ?_))
    rw [e16]
    refine Wp.gi (i_rng (by omega) (by decide)) (Wp.nam (Wp.nam ?_))
    rw [i_nn (by omega), wi_rwo (show ¬ x + 95 + 3 = x + 95 + 4 by omega), h1', i_ad1]
    have r19 : (wi (wi N1 (x + 95 + 4) (16 + i) w) (x + 95 + 3) 17 (Int32.ofNat (i + 1))).1 (x + 95) 19 = 0 := by rw [wi_rwo (by omega), wi_rwo (by omega)]; exact h1
    have r15 : (wi (wi N1 (x + 95 + 4) (16 + i) w) (x + 95 + 3) 17 (Int32.ofNat (i + 1))).1 (x + 95) 15 = N1.1 (x + 95) 15 := by rw [wi_rwo (by omega), wi_rwo (by omega)]
    generalize wi (wi N1 (x + 95 + 4) (16 + i) w) (x + 95 + 3) 17 (Int32.ofNat (i + 1)) = N2 at r19 r15 ⊢
    refine Wp.j0 (Wp.ps r19 ?_)
    rw [r15]
    by_cases g : N1.1 (x + 95) 15 = 2
    · refine Wp.ps g (Wp.ret ?_)
      rw [if_pos g]
    · refine Wp.ng g (Wp.ret ?_)
      rw [if_neg g]
  refine Wp.eq ?_
  unfold l_X11_readWord_8
  exact Wp.j1 (Wp.br (fun _ => Wp.br (fun _ => Wp.ng n16 last) (fun _ => last)) (fun _ => last))
theorem mword_dead {x i : Nat} {N N1 : Mem} {w : Int32} (hi : i < 16) (h17 : N.1 (x + 95 + 3) 17 = Int32.ofNat i) (hr : f_X11_readNumber (x + 95) 0 255 N = some (w, N1)) (h1 : ¬ N1.1 (x + 95) 19 = 0) : l_X11_readWord_8 (x + 95) N = some (.inr ((), N1)) := by
  have n16 : ¬ N.1 (x + 95 + 3) 17 = 16 := fun q => by
    rw [h17] at q
    have := congrArg Int32.toInt q
    rw [ti_nat (by omega)] at this
    have e16 : (16 : Int32).toInt = 16 := rfl
    omega
  have last : Wp (bd (f_X11_readNumber (x + 95) (0 : Int32) (255 : Int32) N) (fun u4 M5 => jn1 (fun M6 => jn0 (fun _ => some (.inr ((), M6))) (fun J98 => if (M6.1 (x + 95) 19) = 0 then (if (M6.1 (x + 95) 15) = (2 : Int32) then (some (.inl M6)) else (J98 ())) else (J98 ()))) (fun J83 => if (M5.1 (x + 95) 19) = 0 then (gdi ((16 : Int32) + (M5.1 (x + 95 + 3) 17)) 32 (nm (wi M5 (x + 95 + 4) ((16 : Int32) + (M5.1 (x + 95 + 3) 17)).toNatClampNeg u4) (fun M7 => nm (wi M7 (x + 95 + 3) 17 ((M7.1 (x + 95 + 3) 17) + (1 : Int32))) (fun M8 => J83 M8)))) else (J83 M5)))) (fun q => q = (.inr ((), N1) : Mem ⊕ (Unit × Mem))) := Wp.cl hr (Wp.j1 (Wp.ng h1 (Wp.j0 (Wp.ng h1 (Wp.ret rfl)))))
  refine Wp.eq ?_
  unfold l_X11_readWord_8
  exact Wp.j1 (Wp.br (fun _ => Wp.br (fun _ => Wp.ng n16 last) (fun _ => last)) (fun _ => last))
theorem cword_stop {x i : Nat} {M : Mem} (h : ¬ M.1 (x + 1) 5 = 3) : l_X6_readWord_29 (x + 1) (Int32.ofNat i) M = some (.inr ((), M)) := by
  refine Wp.eq ?_
  unfold l_X6_readWord_29
  have fin : Wp (jn1 (fun M10 => some (.inr ((), M10))) (fun J91 => if (M.1 (x + 1) 5) = (3 : Int32) then (bd (f_X6_fail (x + 1) (2 : Int32) M) (fun _ M12 => J91 M12)) else (J91 M))) (fun q => q = (.inr ((), M) : (Int32 × Mem) ⊕ (Unit × Mem))) := Wp.j1 (Wp.ng h (Wp.ret rfl))
  exact Wp.j0 (Wp.br (fun _ => fin) (fun _ => Wp.ng h fin))
theorem words_loop {x sp len : Nat} {tp : Nat → Int32} (hs : sp = x + 3 ∨ sp = x + 11) : ∀ (m i fc fm : Nat) (M N : Mem) (st pos : Nat) (L : LN), i + m = 16 → 1 ≤ i → m + 1 < fc → m < fm → LV x tp len st pos 3 M N → LG x sp L M N → LWf L → (L.1 7).toInt = (i : Int) → M.2.2 1 = sp → ∃ M' N', lop2 fc (l_X6_readWord_29 (x + 1)) (Int32.ofNat i) M = some ((), M') ∧ lop1 fm (l_X11_readWord_8 (x + 95)) N = some ((), N') ∧ SR x sp tp len st L M N M' N' := by
  intro m
  induction m with
  | zero =>
    intro i fc fm M N st pos L hi h1 hc hm hL hG hW h7 hsp
    obtain ⟨fc, rfl⟩ : ∃ q, fc = q + 1 := ⟨fc - 1, by omega⟩
    obtain ⟨fm, rfl⟩ : ∃ q, fm = q + 1 := ⟨fm - 1, by omega⟩
    obtain rfl : i = 16 := by omega
    obtain ⟨M', N', f1, f2, hD, fR, fT⟩ := hL.fail (f := 2) (by decide)
    have hL7 : L.1 7 = Int32.ofNat 16 := Int32.toInt_inj.mp (by rw [h7, ti_nat (by omega)])
    have h17 : N.1 (x + 95 + 3) 17 = 16 := by rw [(hG.1 7 (by decide)).2, hL7]; rfl
    refine ⟨M', N', lop2_inr (Wp.eq ?_), lop1_inr (Wp.eq ?_), fR.L, fT.K, Or.inr ⟨2, _, hD⟩⟩
    · unfold l_X6_readWord_29
      exact Wp.j0 (Wp.ps (by decide) (Wp.j1 (Wp.ps hL.kd (Wp.cl f1 (Wp.ret rfl)))))
    · unfold l_X11_readWord_8
      exact Wp.j1 (Wp.ps hL.2.2.2.1 (Wp.ps (by rw [hL.md]; rfl) (Wp.ps h17 (Wp.cl f2 (Wp.cl (number0 hD.n19) (Wp.j1 (Wp.ng hD.n19 (Wp.j0 (Wp.ng hD.n19 (Wp.ret rfl))))))))))
  | succ m ih =>
    intro i fc fm M N st pos L hi h1 hc hm hL hG hW h7 hsp
    obtain ⟨fc, rfl⟩ : ∃ q, fc = q + 1 := ⟨fc - 1, by omega⟩
    obtain ⟨fm, rfl⟩ : ∃ q, fm = q + 1 := ⟨fm - 1, by omega⟩
    have e0 : (0 : Int32).toInt = 0 := rfl
    have e255 : (255 : Int32).toInt = 255 := rfl
    have hL7 : L.1 7 = Int32.ofNat i := Int32.toInt_inj.mp (by rw [h7, ti_nat (by omega)])
    have h17 : N.1 (x + 95 + 3) 17 = Int32.ofNat i := by rw [(hG.1 7 (by decide)).2, hL7]
    obtain ⟨v, w, M1, N1, n1, n2, fR, fT, b1, b2, hres⟩ := hL.num (lo := 0) (hi := 255) (by rw [e255]; omega) (by rw [e0, e255]; omega)
    have hs1 : M1.2.2 1 = sp := by rw [fR.2]; exact hsp
    have gd : ∀ M : Mem, M.2.2 1 = sp → M.2.2 1 = x + 1 + 2 ∨ M.2.2 1 = x + 1 + 10 := fun M h => spgd hs h
    have cb : l_X6_readWord_29 (x + 1) (Int32.ofNat i) M = some (.inl (Int32.ofNat (i + 1), wi (wi M1 (sp + 1) i v) sp 7 (Int32.ofNat (i + 1)))) := by
      refine Wp.eq ?_
      unfold l_X6_readWord_29
      refine Wp.j0 (Wp.ng (fun g => by have := (i_le (a := 16) (b := i) (by omega) (by omega)).mp g; omega) (Wp.ps hL.kd (Wp.gp (gd M hsp) (Wp.cl n1 ?_))))
      rw [hsp]
      refine Wp.cl (put_nat (by omega) (by decide)) (Wp.gp (gd _ hs1) ?_)
      have e : (wi M1 (sp + 1) i v).2.2 1 = sp := hs1
      rw [e, i_ad1]
      exact Wp.nam (Wp.nam (Wp.ret rfl))
    have hM5 : (wi (wi M1 (sp + 1) i v) sp 7 (Int32.ofNat (i + 1))).1 (x + 1) 5 = M1.1 (x + 1) 5 := by rw [wi_rwo (by omega), wi_rwo (by omega)]
    have fC : frL x sp M (wi (wi M1 (sp + 1) i v) sp 7 (Int32.ofNat (i + 1))) := (fR.L.tr (wiL (by omega))).tr (wiL (by omega))
    obtain ⟨fc, rfl⟩ : ∃ q, fc = q + 1 := ⟨fc - 1, by omega⟩
    rcases hres with ⟨hvw, _, st1, pos1, kd1, hL1, hp1⟩ | ⟨f, hD, _⟩
    · subst hvw
      have hle := hL.le
      have h17' : N1.1 (x + 95 + 3) 17 = Int32.ofNat i := by rw [fT.1 _ _ (by omega)]; exact h17
      have mb := mword_live (show i < 16 by omega) h17 n2 hL1.2.2.2.1 h17'
      have hL2 : LV x tp len st1 pos1 kd1 (wi (wi M1 (sp + 1) i v) sp 7 (Int32.ofNat (i + 1))) (wi (wi N1 (x + 95 + 4) (16 + i) v) (x + 95 + 3) 17 (Int32.ofNat (i + 1))) := hL1.sp hs (fun b j h => by rw [wi_rwo (by omega), wi_rwo (by omega)]) (fun b j h1 h2 => by rw [wi_rwo h1, wi_rwo h2])
      have hG2 := (hG.RT hs fR fT).wordset (v := v) (show i < 16 by omega) (Or.inr h7)
      have hW2 := hW.word (v := v) (show i < 16 by omega)
      have fN : frK (x + 95) N (wi (wi N1 (x + 95 + 4) (16 + i) v) (x + 95 + 3) 17 (Int32.ofNat (i + 1))) := (fT.K.tr (wiK (by omega))).tr (wiK (by omega))
      by_cases g : kd1 = 3
      · subst g
        rw [if_pos (by rw [hL1.md]; rfl)] at mb
        obtain ⟨M3, N3, r1, r2, r3⟩ := ih (i + 1) (fc + 1) fm _ _ st1 pos1 _ (by omega) (by omega) (by omega) (by omega) hL2 hG2 hW2 (by show (rup L.1 7 (Int32.ofNat (i + 1)) 7).toInt = _; rw [rup_s, ti_nat (by omega)]) hs1
        exact ⟨M3, N3, (lop2_inl cb).trans r1, (lop1_inl mb).trans r2, SR.next fC fN (by omega) rfl r3⟩
      · rw [if_neg (by rw [hL1.md]; exact fun q => g (md_is.1.mp q))] at mb
        exact ⟨_, _, (lop2_inl cb).trans (lop2_inr (cword_stop (by rw [hM5, hL1.kd]; exact g))), lop1_inr mb, fC, fN, Or.inl ⟨st1, pos1, kd1, _, hL2, hG2, hW2, rfl, by omega⟩⟩
    · have mb := mword_dead (show i < 16 by omega) h17 n2 hD.n19
      exact ⟨_, N1, (lop2_inl cb).trans (lop2_inr (cword_stop (by rw [hM5, hD.2.2.2.1]; decide))), lop1_inr mb, fC, fT.K, Or.inr ⟨f, _, hD.sp hs (fun b j h => by rw [wi_rwo (by omega), wi_rwo (by omega)]) (fun _ _ _ _ => rfl)⟩⟩
/-- the words of the line are read -/
theorem set_word {x sp : Nat} {tp : Nat → Int32} {len st pos : Nat} {kd : Int32} {L : LN} {M N : Mem} (hs : sp = x + 3 ∨ sp = x + 11) (hsp : M.2.2 1 = sp) (hL : LV x tp len st pos kd M N) (hG : LG x sp L M N) (hW : LWf L) : ∃ M' N', f_X6_readWord (x + 1) M = some ((), M') ∧ f_X11_readWord (x + 95) N = some ((), N') ∧ SR x sp tp len st L M N M' N' := by
  have e0 : (0 : Int32).toInt = 0 := rfl
  have e255 : (255 : Int32).toInt = 255 := rfl
  obtain ⟨v, w, M1, N1, n1, n2, fR, fT, b1, b2, hres⟩ := hL.num (lo := 0) (hi := 255) (by rw [e255]; omega) (by rw [e0, e255]; omega)
  have hs1 : M1.2.2 1 = sp := by rw [fR.2]; exact hsp
  have gd : ∀ M : Mem, M.2.2 1 = sp → M.2.2 1 = x + 1 + 2 ∨ M.2.2 1 = x + 1 + 10 := fun M h => spgd hs h
  have hle := hL.le
  -- the model's row with the count at 0
  have hLz : LV x tp len st pos kd M (wi N (x + 95 + 3) 17 0) := hL.cg (fun _ _ _ => rfl) (fun b j hb => by rw [wi_rwo (by omega)])
  obtain ⟨v', w', M1', N1', n1', n2', fR', fT', b1', b2', hres'⟩ := hLz.num (lo := 0) (hi := 255) (by rw [e255]; omega) (by rw [e0, e255]; omega)
  have ev := Prod.mk.inj (Option.some.inj (n1.symm.trans n1'))
  obtain ⟨ev1, ev2⟩ := ev
  subst ev1 ev2
  clear n2 hres b1 b2 fT fR'
  have h17 : (wi N (x + 95 + 3) 17 0).1 (x + 95 + 3) 17 = Int32.ofNat 0 := wi_hit
  have cls : ∀ M2, lop2 FU (l_X6_readWord_29 (x + 1)) (1 : Int32) (wi (wi M1 (sp + 1) 0 v) sp 7 (Int32.ofNat (0 + 1))) = some ((), M2) → f_X6_readWord (x + 1) M = some ((), M2) := fun M2 h => by
    refine Wp.eq ?_
    unfold f_X6_readWord
    refine Wp.gp (gd M hsp) (Wp.cl n1 ?_)
    rw [hsp]
    have hp : f_X10_put (sp + 1) 16 (0 : Int32) v M1 = some ((), wi M1 (sp + 1) 0 v) := put_nat (k := 0) (by decide) (by decide)
    refine Wp.cl hp (Wp.gp (gd _ hs1) ?_)
    have e : (wi M1 (sp + 1) 0 v).2.2 1 = sp := hs1
    rw [e]
    exact Wp.nam ⟨_, h, rfl⟩
  have mdl : ∀ N2, lop1 FU (l_X11_readWord_8 (x + 95)) (wi N (x + 95 + 3) 17 0) = some ((), N2) → f_X11_readWord (x + 95) N = some ((), N2) := fun N2 h => by
    refine Wp.eq ?_
    unfold f_X11_readWord
    exact Wp.nam ⟨_, h, rfl⟩
  have hM5 : (wi (wi M1 (sp + 1) 0 v) sp 7 (Int32.ofNat (0 + 1))).1 (x + 1) 5 = M1.1 (x + 1) 5 := by rw [wi_rwo (by omega), wi_rwo (by omega)]
  have fC : frL x sp M (wi (wi M1 (sp + 1) 0 v) sp 7 (Int32.ofNat (0 + 1))) := (fR.L.tr (wiL (by omega))).tr (wiL (by omega))
  have fN0 : frK (x + 95) N (wi N (x + 95 + 3) 17 0) := wiK (by omega)
  rcases hres' with ⟨hvw, _, st1, pos1, kd1, hL1, hp1⟩ | ⟨f, hD, _⟩
  · subst hvw
    have h17' : N1'.1 (x + 95 + 3) 17 = Int32.ofNat 0 := by rw [fT'.1 _ _ (by omega)]; exact h17
    have mb := mword_live (show 0 < 16 by decide) h17 n2' hL1.2.2.2.1 h17'
    have hL2 : LV x tp len st1 pos1 kd1 (wi (wi M1 (sp + 1) 0 v) sp 7 (Int32.ofNat (0 + 1))) (wi (wi N1' (x + 95 + 4) (16 + 0) v) (x + 95 + 3) 17 (Int32.ofNat (0 + 1))) := hL1.sp hs (fun b j h => by rw [wi_rwo (by omega), wi_rwo (by omega)]) (fun b j h1 h2 => by rw [wi_rwo h1, wi_rwo h2])
    have fNN : frK (x + 95) N (wi (wi N1' (x + 95 + 4) (16 + 0) v) (x + 95 + 3) 17 (Int32.ofNat (0 + 1))) := ((fN0.tr fT'.K).tr (wiK (by omega))).tr (wiK (by omega))
    -- the count is set anew: the row with the old count does as well
    have hG2 : LG x sp (rup L.1 7 (Int32.ofNat (0 + 1)), rup L.2.1 0 v, L.2.2) (wi (wi M1 (sp + 1) 0 v) sp 7 (Int32.ofNat (0 + 1))) (wi (wi N1' (x + 95 + 4) (16 + 0) v) (x + 95 + 3) 17 (Int32.ofNat (0 + 1))) := by
      have hGn : LG x sp L M1 (wi N1' (x + 95 + 3) 17 (L.1 7)) := (hG.cg (M' := M1) (N' := wi N1' (x + 95 + 3) 17 (L.1 7)) (fun b k _ _ => fR.1 b k (by omega)) (fun b k hb => by
        by_cases q : b = x + 95 + 3 ∧ k = 17
        · rw [q.1, q.2, wi_hit, (hG.1 7 (by decide)).2]
        · have : (wi N1' (x + 95 + 3) 17 (L.1 7)).1 b k = N1'.1 b k := by
            simp only [wi]
            rw [if_neg q]
          rw [this, fT'.1 _ _ (by omega)]
          simp only [wi]
          rw [if_neg q]))
      have h3 := hGn.wordset (v := v) (show 0 < 16 by decide) (Or.inl rfl)
      refine h3.cg (fun _ _ _ _ => rfl) (fun b k hb => ?_)
      simp only [wi]
      by_cases q1 : b = x + 95 + 3 ∧ k = 17
      · rw [if_pos q1, if_pos q1]
      · rw [if_neg q1, if_neg q1, if_neg q1]
    have hW2 := hW.word (v := v) (show 0 < 16 by decide)
    by_cases g : kd1 = 3
    · subst g
      rw [if_pos (by rw [hL1.md]; rfl)] at mb
      obtain ⟨M3, N3, r1, r2, r3⟩ := words_loop hs 15 1 FU (FU - 1) _ _ st1 pos1 _ (by omega) (by omega) (by unfold FU; omega) (by unfold FU; omega) hL2 hG2 hW2 (by show (rup L.1 7 (Int32.ofNat (0 + 1)) 7).toInt = _; rw [rup_s, ti_nat (by omega)]) hs1
      have hFU : FU = FU - 1 + 1 := by unfold FU; omega
      refine ⟨M3, N3, cls _ r1, mdl _ ?_, SR.next fC fNN (by omega) rfl r3⟩
      rw [hFU]
      exact (lop1_inl mb).trans r2
    · rw [if_neg (by rw [hL1.md]; exact fun q => g (md_is.1.mp q))] at mb
      exact ⟨_, _, cls _ (lop2_FU (cword_stop (i := 1) (by rw [hM5, hL1.kd]; exact g))), mdl _ (lop1_FU mb), fC, fNN, Or.inl ⟨st1, pos1, kd1, _, hL2, hG2, hW2, rfl, by omega⟩⟩
  · have mb := mword_dead (show 0 < 16 by decide) h17 n2' hD.n19
    exact ⟨_, N1', cls _ (lop2_FU (cword_stop (i := 1) (by rw [hM5, hD.2.2.2.1]; decide))), mdl _ (lop1_FU mb), fC, fN0.tr fT'.K, Or.inr ⟨f, _, hD.sp hs (fun b j h => by rw [wi_rwo (by omega), wi_rwo (by omega)]) (fun _ _ _ _ => rfl)⟩⟩
