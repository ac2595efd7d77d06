/-! line, of both: the end -/
theorem Inv2.spare {x : Nat} {L : LN} {M N : Mem} (h : Inv2 x L M N) : ∃ sp, (sp = x + 3 ∨ sp = x + 11) ∧ M.2.2 1 = sp ∧ (M.2.2 0 = x + 3 ∨ M.2.2 0 = x + 11) ∧ ¬ M.2.2 0 = sp := by
  rcases h.2.1 with ⟨a, b⟩ | ⟨a, b⟩
  · exact ⟨x + 11, Or.inr rfl, b, Or.inl a, by omega⟩
  · exact ⟨x + 3, Or.inl rfl, b, Or.inr a, by omega⟩
/-- both begin anew with a line -/
theorem begin_new {x sp tl : Nat} {L' : LN} {M N : Mem} (hs : sp = x + 3 ∨ sp = x + 11) (htl : tl = x + 3 ∨ tl = x + 11) (hne : ¬ tl = sp) (hG : LG x sp L' M N) (hW : LWf L') (h0 : M.2.2 0 = sp) (h1 : M.2.2 1 = tl) (htap : M.1 (x + 1) 1 = 0) (h12 : N.1 (x + 95) 12 = 0) (hpl : M.1 (x + 1) 7 = N.1 (x + 95) 21) (h29 : N.1 (x + 95) 29 = 0) (h9 : N.1 (x + 95) 9 = 1) (hst : ∀ j, j < 3 → M.1 (x + 19 + 29) j = N.1 (x + 95 + 7) j) : ∃ M' N', f_X8_begin (x + 19) sp M = some ((), M') ∧ f_X11_takeOver (x + 95) N = some ((), N') ∧ Inv2 x L' (wi M' x 4 0) N' ∧ (∀ b k, ¬ (x + 19 ≤ b ∧ b < x + 49) → M'.1 b k = M.1 b k) ∧ M'.2 = M.2 ∧ (∀ b k, ¬ (x + 95 ≤ b ∧ b < x + 122) → N'.1 b k = N.1 b k) ∧ N'.2 = N.2 ∧ N'.1 (x + 95) 2 = N.1 (x + 95) 2 := by
  obtain ⟨g1, g2, g3, g4, g5, g6⟩ := hG
  obtain ⟨N', t1, t2, t3, t4, t5, t6, t7, t8, t9, t10⟩ := take_over (x := x) (L := L') (N := N) (fun k hk => (g1 k hk).2) (fun k hk => (g2 k hk).2) g5 g6 g3.2.1 g4.2.1
  have b1 := e_begin9 (M := M) (w := x + 19 + 1) (r := sp) (c := getW M (x + 19 + 1)) (L := L') (by unfold Ow; omega) (fun k hk => (g1 k hk).1)
  rw [set_get] at b1
  generalize hM1 : setW M (x + 19 + 1) (begC L' (getW M (x + 19 + 1))) = M1 at b1
  have o1 : ∀ b k, ¬ (x + 20 ≤ b ∧ b < x + 32) → M1.1 b k = M.1 b k := fun b k h => by rw [← hM1]; exact rd_Wo (by omega)
  have b2 := e_begin9 (M := M1) (w := x + 19 + 13) (r := sp) (c := getW M1 (x + 19 + 13)) (L := L') (by unfold Ow; omega) (fun k hk => by rw [o1 _ _ (by omega)]; exact (g1 k hk).1)
  rw [set_get] at b2
  generalize hM2 : setW M1 (x + 19 + 13) (begC L' (getW M1 (x + 19 + 13))) = M2 at b2
  have o2 : ∀ b k, ¬ (x + 32 ≤ b ∧ b < x + 44) → M2.1 b k = M1.1 b k := fun b k h => by rw [← hM2]; exact rd_Wo (by omega)
  have z2 : M2.2 = M.2 := by rw [← hM2, ← hM1]; rfl
  have lv1 : Lv (begC L' (getW M (x + 19 + 1))) (getW M1 (x + 19 + 1)) := by rw [← hM1]; exact getset
  have lv2 : Lv (begC L' (getW M1 (x + 19 + 13))) (getW M2 (x + 19 + 13)) := by rw [← hM2]; exact getset
  have o3 : ∀ b k, ¬ (b = x + 19 ∧ (k = 2 ∨ k = 5)) → (wi (wi M2 (x + 19) 2 0) (x + 19) 5 0).1 b k = M2.1 b k := fun b k h => by
    simp only [wi]
    rw [if_neg (by omega), if_neg (by omega)]
  have o4 : ∀ b k, ¬ (b = x + 19 ∧ (k = 2 ∨ k = 5)) → ¬ (b = x ∧ k = 4) → (wi (wi (wi M2 (x + 19) 2 0) (x + 19) 5 0) x 4 0).1 b k = M2.1 b k := fun b k h h2 => by
    have e : (wi (wi (wi M2 (x + 19) 2 0) (x + 19) 5 0) x 4 0).1 b k = (wi (wi M2 (x + 19) 2 0) (x + 19) 5 0).1 b k := by
      simp only [wi]
      rw [if_neg h2]
    rw [e, o3 b k h]
  have oM : ∀ b k, ¬ (x + 20 ≤ b ∧ b < x + 44) → M2.1 b k = M.1 b k := fun b k h => by rw [o2 _ _ (by omega), o1 _ _ (by omega)]
  have hW0 : W0 L' 0 (getW M1 (x + 19 + 1)) (r0 L') := (W0_begin hW).lv lv1
  have hW2 : W0 L' 0 (getW M2 (x + 19 + 13)) (r0 L') := (W0_begin hW).lv lv2
  refine ⟨wi (wi M2 (x + 19) 2 0) (x + 19) 5 0, N', Wp.eq ?_, t1, ⟨hW, ?_, ⟨fun k hk => ?_, fun k hk => ?_, ⟨?_, g3.2.1, fun j hj => ?_⟩, ⟨?_, g4.2.1, fun j hj => ?_⟩⟩, t2, t3, t4, ?_, ⟨0, by omega, ?_, ?_, fun j hj => absurd hj (Nat.not_lt_zero _)⟩, ?_, ⟨0, 0, t5, t6, ?_⟩, ⟨?_, Or.inl wi_hit, fun h => absurd wi_hit h⟩, ?_⟩, fun b k h => by rw [o3 _ _ (by omega), oM _ _ (by omega)], z2, fun b k h => t9 _ _ (by omega) (by omega) (by omega) (by omega), t10, t9 _ _ (by omega) (by omega) (by omega) (by omega)⟩
  · unfold f_X8_begin
    exact Wp.cl b1 (Wp.cl b2 (Wp.nam (Wp.nam (Wp.ret rfl))))
  · have e0 : (wi (wi (wi M2 (x + 19) 2 0) (x + 19) 5 0) x 4 0).2.2 0 = sp := by
      show M2.2.2 0 = sp
      rw [z2]; exact h0
    have e1 : (wi (wi (wi M2 (x + 19) 2 0) (x + 19) 5 0) x 4 0).2.2 1 = tl := by
      show M2.2.2 1 = tl
      rw [z2]; exact h1
    rw [e0, e1]
    omega
  · have e0 : (wi (wi (wi M2 (x + 19) 2 0) (x + 19) 5 0) x 4 0).2.2 0 = sp := by
      show M2.2.2 0 = sp
      rw [z2]; exact h0
    rw [e0, o4 _ _ (by omega) (by omega), oM _ _ (by omega)]
    exact (g1 k hk).1
  · have e0 : (wi (wi (wi M2 (x + 19) 2 0) (x + 19) 5 0) x 4 0).2.2 0 = sp := by
      show M2.2.2 0 = sp
      rw [z2]; exact h0
    rw [e0, o4 _ _ (by omega) (by omega), oM _ _ (by omega)]
    exact (g2 k hk).1
  · have e0 : (wi (wi (wi M2 (x + 19) 2 0) (x + 19) 5 0) x 4 0).2.2 0 = sp := by
      show M2.2.2 0 = sp
      rw [z2]; exact h0
    rw [e0, o4 _ _ (by omega) (by omega), oM _ _ (by omega)]
    exact g3.1
  · have e0 : (wi (wi (wi M2 (x + 19) 2 0) (x + 19) 5 0) x 4 0).2.2 0 = sp := by
      show M2.2.2 0 = sp
      rw [z2]; exact h0
    rw [e0, o4 _ _ (by omega) (by omega), oM _ _ (by omega)]
    exact g3.2.2 j hj
  · have e0 : (wi (wi (wi M2 (x + 19) 2 0) (x + 19) 5 0) x 4 0).2.2 0 = sp := by
      show M2.2.2 0 = sp
      rw [z2]; exact h0
    rw [e0, o4 _ _ (by omega) (by omega), oM _ _ (by omega)]
    exact g4.1
  · have e0 : (wi (wi (wi M2 (x + 19) 2 0) (x + 19) 5 0) x 4 0).2.2 0 = sp := by
      show M2.2.2 0 = sp
      rw [z2]; exact h0
    rw [e0, o4 _ _ (by omega) (by omega), oM _ _ (by omega)]
    exact g4.2.2 j hj
  · rw [t9 _ _ (by omega) (by omega) (by omega) (by omega)]; exact h29
  · rw [o4 _ _ (by omega) (by omega), oM _ _ (by omega)]; exact htap
  · rw [t9 _ _ (by omega) (by omega) (by omega) (by omega)]; exact h12
  · rw [o4 _ _ (by omega) (by omega), oM _ _ (by omega), t9 _ _ (by omega) (by omega) (by omega) (by omega)]; exact hpl
  · refine ⟨Nat.zero_le _, Nat.zero_le _, ?_, ?_, fun j hj => absurd hj (Nat.not_lt_zero _), ⟨0, ?_⟩, ⟨0, ?_⟩, fun j hj => absurd hj (Nat.not_lt_zero _), fun j hj => absurd hj (Nat.not_lt_zero _), fun j hj => ?_⟩
    · rw [wi_rwo (by omega), wi_sl (by decide), wi_hit]; rfl
    · rw [wi_rwo (by omega), wi_hit]; rfl
    · refine (hW0.lv ?_).rg (fun j hj => (t8 j hj))
      exact Lv.of (fun d k hd => by rw [o4 _ _ (by omega) (by omega), o2 _ _ (by omega)])
    · refine (hW2.lv ?_).rg (fun j hj => ?_)
      · exact Lv.of (fun d k hd => o4 _ _ (by omega) (by omega))
      · unfold prR
        rw [if_neg (by omega)]
        exact t8 j hj
    · rw [o4 _ _ (by omega) (by omega), oM _ _ (by omega), t9 _ _ (by omega) (by omega) (by omega) (by omega)]; exact hst j hj
  · rw [wi_hit]; exact t7.symm
  · rw [t9 _ _ (by omega) (by omega) (by omega) (by omega)]; exact h9
theorem call_line {x : Nat} {L : LN} {M N0 N : Mem} {v : Int32} (h : Rdy x L M N0 N) : CallT x κ1 M N (f_X10_line x v M) (f_X11_line (x + 95) v N0) := by
  obtain ⟨hr, hI, hc0⟩ := h
  have e0 : (0 : Int32).toInt = 0 := rfl
  obtain ⟨k, hk, hk1, hk2, htp⟩ := hI.2.2.2.2.2.2.2.1
  by_cases hv : 0 ≤ v.toInt ∧ v.toInt ≤ (k : Int)
  · obtain ⟨n, hn, hvn⟩ : ∃ n, n ≤ k ∧ v = Int32.ofNat n := ⟨v.toInt.toNat, by omega, nat_of hv.1⟩
    subst hvn
    obtain ⟨sp, hs, hsp, htl, hne⟩ := hI.spare
    obtain ⟨M1, N1, st, pos, kd, c1, c2, hL, hG, h10, h1, n12, n21, fM, fM2, fN, fN2⟩ := read_begin hs hsp hn hk (fun j hj => by
      have := htp j hj
      exact ⟨this.1, this.2.1, this.2.2⟩)
    have hT0 : TB 0 L0 := ⟨by decide, fun _ => rfl, fun _ => rfl⟩
    have h7 := hL.1.1.1.1
    obtain ⟨M2, N2, w, d1, fX, fK, hres⟩ := read_loop hs n 0 FU FU M1 N1 st pos kd L0 0 (by omega) (by unfold FU; omega) (by unfold FU; omega) hL hG L0_wf hT0 h10 (by rw [fM2]; exact hsp) (Nat.zero_le _)
    have hread := c1 w M2 d1
    have gM : ∀ b k, ¬ b = x + 1 → ¬ (sp ≤ b ∧ b < sp + 8) → M2.1 b k = M.1 b k := fun b k q1 q2 => by rw [fX.1 _ _ (by omega) q2, fM _ _ q1 q2]
    have gM0 : M2.2.2 0 = M.2.2 0 := by rw [fX.2.2.1, fM2]
    have gM1 : M2.2.2 1 = M.2.2 1 := by rw [fX.2.2.2, fM2]
    have gM2 : M2.2.1 = M.2.1 := by rw [fX.2.1, fM2]
    have gN : ∀ b k, ¬ (b = x + 95 ∧ (k = 10 ∨ (12 ≤ k ∧ k ≤ 21))) → ¬ (b = x + 95 + 3 ∧ 10 ≤ k) → ¬ (b = x + 95 + 4 ∧ 16 ≤ k) → ¬ ((b = x + 95 + 5 ∨ b = x + 95 + 6) ∧ 700 ≤ k) → N2.1 b k = N.1 b k := fun b k q1 q2 q3 q4 => by rw [fK.1 _ _ (by omega) q2 q3 q4, fN _ _ (by omega) q2 q3]
    have gN2 : N2.2 = N.2 := by rw [fK.2, fN2]
    have t1 : M2.1 (x + 1) 1 = 0 := by rw [fX.1 _ _ (by omega) (by omega)]; exact h1
    have t12 : N2.1 (x + 95) 12 = 0 := by rw [fK.1 _ _ (by omega) (by omega) (by omega) (by omega)]; exact n12
    have t21 : N2.1 (x + 95) 21 = -1 := by rw [fK.1 _ _ (by omega) (by omega) (by omega) (by omega)]; exact n21
    have mdl : ∀ r N3, lop2 FU (l_X11_line_57 (x + 95)) (0 : Int32) N1 = some (r, N3) → f_X11_line (x + 95) (Int32.ofNat n) N0 = some (r, N3) := fun r N3 h => by
      refine Wp.eq ?_
      unfold f_X11_line
      refine Wp.cl hr (Wp.j0 (Wp.ng (nlt_of (by rw [e0]; omega)) (Wp.ps ?_ (c2 _ ⟨_, h, rfl⟩))))
      rw [hk2]
      exact (i_le (by omega) (by omega)).mpr hn
    have cpre : ∀ Q, Wp (bd (f_X6_read (x + 1) (Int32.ofNat n) M) (fun u1 M2 => if u1 = 0 then (gdp (M2.2.2 0 = x + 3 ∨ M2.2.2 0 = x + 11) (bd (f_X6_exchange (x + 1) (M2.2.2 0) M2) (fun u4 M5 => nm (wd M5 0 u4) (fun M6 => gdp (M6.2.2 0 = x + 3 ∨ M6.2.2 0 = x + 11) (bd (f_X8_begin (x + 19) (M6.2.2 0) M6) (fun _ M9 => nm (wi M9 x 4 (0 : Int32)) (fun M10 => some (.inl (0 : Int32), M10)))))))) else (bd (f_X8_refuse (x + 19) (0 : Int32) M2) (fun _ M12 => some (.inl u1, M12))))) Q → Wp (f_X10_line x (Int32.ofNat n) M) Q := fun Q hQ => by
      unfold f_X10_line
      refine Wp.j0 (Wp.ng (nlt_of (by rw [e0]; omega)) (Wp.ps ?_ hQ))
      rw [hk1]
      exact (i_le (by omega) (by omega)).mpr hn
    have hstat : ∀ j, j < 3 → M2.1 (x + 19 + 29) j = N2.1 (x + 95 + 7) j := fun j hj => by
      obtain ⟨n, nn, c1, c2, c3⟩ := hI.2.2.2.2.2.2.2.2.2.1
      rw [gM _ _ (by omega) (by omega), gN _ _ (by omega) (by omega) (by omega) (by omega)]
      exact c3.2.2.2.2.2.2.2.2.2 j hj
    rcases hres with ⟨L', hw, hG', hW', z6, z19, z7, hmod⟩ | ⟨f, p, hw, hD, hmod⟩
    · subst hw
      generalize hM3 : wd (wd M2 1 (M.2.2 0)) 0 sp = M3
      have o3 : ∀ b k, M3.1 b k = M2.1 b k := fun b k => by rw [← hM3]; rfl
      have r30 : M3.2.2 0 = sp := by rw [← hM3]; rfl
      have r31 : M3.2.2 1 = M.2.2 0 := by rw [← hM3]; rfl
      have r32 : M3.2.1 = M.2.1 := by rw [← hM3, ← gM2]; rfl
      obtain ⟨M4, N4, b1, b2, b3, b4, b5, b6, b7, b8⟩ := begin_new (M := M3) (N := N2) hs htl hne (hG'.cg (fun b k _ _ => o3 b k) (fun _ _ _ => rfl)) hW' r30 r31 (by rw [o3]; exact t1) t12 (by rw [o3, z7, t21]) (by rw [gN _ _ (by omega) (by omega) (by omega) (by omega)]; exact hI.2.2.2.2.2.2.1) (by rw [gN _ _ (by omega) (by omega) (by omega) (by omega)]; exact hI.2.2.2.2.2.2.2.2.2.2.2) (fun j hj => by rw [o3]; exact hstat j hj)
      refine ⟨.inl 0, wi M4 x 4 0, 0, N4, L', Wp.eq (cpre _ ?_), mdl _ _ (hmod _ b2), b3, ⟨fun b k q => ?_, ?_⟩, ⟨fun b k q => ?_, ?_⟩, Or.inl ⟨rfl, ?_⟩⟩
      · refine Wp.cl hread (Wp.ps rfl (Wp.gp (by rw [gM0]; exact htl) ?_))
        have hx : f_X6_exchange (x + 1) (M2.2.2 0) M2 = some (sp, wd M2 1 (M.2.2 0)) := by
          refine Wp.eq ?_
          unfold f_X6_exchange
          have h21 : M2.2.2 1 = sp := gM1.trans hsp
          refine Wp.gp (spgd hs h21) ?_
          rw [gM0, h21]
          exact Wp.nam (Wp.ret rfl)
        refine Wp.cl hx ?_
        rw [hM3]
        refine Wp.nam (Wp.gp (by rw [r30]; exact hs) ?_)
        rw [r30]
        exact Wp.cl b1 (Wp.nam (Wp.ret rfl))
      · rw [wi_rwo (by omega), b4 _ _ (by omega), o3, gM _ _ (by omega) (by omega)]
      · show M4.2.1 = M.2.1
        rw [b5, r32]
      · rw [b6 _ _ q, gN _ _ (by omega) (by omega) (by omega) (by omega)]
      · rw [b7, gN2]
      · rw [b8, gN _ _ (by omega) (by omega) (by omega) (by omega)]; exact hc0
    · subst hw
      have hf0 : ¬ w = 0 := hD.1
      have hI2 : Inv2 x L M2 (wi N2 (x + 95) 21 p) := hI.rd hsp gM gM0 gM1 (fun b k q1 q2 q3 q4 => by
        have e : (wi N2 (x + 95) 21 p).1 b k = N2.1 b k := by
          simp only [wi]
          rw [if_neg (by omega)]
        rw [e, gN b k q1 q2 q3 q4]) t1 (by rw [wi_sl (by decide)]; exact t12) (by rw [hD.2.2.1, wi_hit])
      have hI3 := hI2.refuse (k := 0) (by decide)
      have e7 : (wi N2 (x + 95) 21 p).1 (x + 95 + 7) 0 = N2.1 (x + 95 + 7) 0 := by rw [wi_rwo (by omega)]
      rw [e7] at hI3
      refine ⟨.inl w, _, w, _, L, Wp.eq (cpre _ ?_), mdl _ _ hmod, hI3, ⟨fun b k q => ?_, ?_⟩, ⟨fun b k q => ?_, ?_⟩, Or.inl ⟨rfl, ?_⟩⟩
      · exact Wp.cl hread (Wp.ng hf0 (Wp.cl e_ref0 (Wp.ret rfl)))
      · rw [wi_rwo (by omega), gM _ _ (by omega) (by omega)]
      · exact gM2
      · rw [wi_rwo (by omega), wi_rwo (by omega), gN _ _ (by omega) (by omega) (by omega) (by omega)]
      · exact gN2
      · rw [wi_rwo (by omega), wi_sl (by decide), gN _ _ (by omega) (by omega) (by omega) (by omega)]; exact hc0
  · have hkI : (Int32.ofNat k).toInt = (k : Int) := ti_nat (by omega)
    refine CallT.err (e := 1) (k := 1) hI (Wp.eq ?_) (Wp.eq ?_) rfl
    · unfold f_X10_line
      refine Wp.j0 (Wp.br (fun _ => Wp.ret rfl) (fun g => Wp.ng (nle_of ?_) (Wp.ret rfl)))
      have := Int32.le_iff_toInt_le.mp (nlt_le.mp g)
      rw [e0] at this
      rw [hk1, hkI]
      omega
    · unfold f_X11_line
      refine Wp.cl hr (Wp.j0 (Wp.br (fun _ => Wp.cl e_fail (Wp.ret rfl)) (fun g => Wp.ng (nle_of ?_) (Wp.cl e_fail (Wp.ret rfl)))))
      have := Int32.le_iff_toInt_le.mp (nlt_le.mp g)
      rw [e0] at this
      rw [hk2, hkI]
      omega
