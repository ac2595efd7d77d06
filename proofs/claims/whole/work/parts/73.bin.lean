/-! The reader: expressions, the levels of two operands -/
def ER (x sp i : Nat) (tp : Nat → Int32) (len b st0 : Nat) (cs : List Int32) (M0 N0 M N : Mem) : Prop := frE x sp i M0 M ∧ frG (x + 95) i N0 N ∧ ((∃ st pos kd ds, LV x tp len st pos kd M N ∧ RX x sp i (cs ++ ds) M N ∧ st0 + ds.length ≤ st ∧ ¬ ds = [] ∧ ∀ d, d ≤ b → dpl ds d = some (d + 1)) ∨ (∃ f p, DD x f p M N))
def PEx (x sp i : Nat) (tp : Nat → Int32) (len b : Nat) (C Md : Mem → Option (Unit × Mem)) : Prop := ∀ M N st pos kd cs, LV x tp len st pos kd M N → RX x sp i cs M N → cs.length ≤ st → ∃ M' N', C M = some ((), M') ∧ Md N = some ((), N') ∧ ER x sp i tp len b st cs M N M' N'
theorem exBody {x l : Nat} {e z5 k : Int32} {M : Mem} {cb : Nat → Int32 → Int32 → Mem → Option (Unit × Mem)} (h : f_X6_operatorHere (x + 1) (Int32.ofNat l) M = some (0, M)) : l_X6_readExpr_50 (x + 1) (Int32.ofNat l) e 0 z5 cb k M = some (.inr ((), M)) := by
  refine Wp.eq ?_
  unfold l_X6_readExpr_50
  have fin : Wp (lop2 FU (l_X6_readExpr_102 (x + 1) 0) (0 : Int32) M) (fun q => q = (.inr ((), M) : (Int32 × Mem) ⊕ (Unit × Mem))) := by
    have : lop2 FU (l_X6_readExpr_102 (x + 1) 0) (0 : Int32) M = some (.inr ((), M)) := by
      refine lop2_FU (Wp.eq ?_)
      unfold l_X6_readExpr_102
      exact Wp.ps (by decide) (Wp.ret rfl)
    exact ⟨_, this, rfl⟩
  exact Wp.j1 (Wp.br (fun _ => fin) (fun _ => Wp.cl h (Wp.ps rfl fin)))
def bin (u : Int32) : Prop := ¬ (-5 : Int32) ≤ u ∧ -13 ≤ u.toInt ∧ ¬ u = 0
theorem dpl_bin {u : Int32} {d : Nat} (h : bin u) : dpl [u] (d + 2) = some (d + 1) := by
  unfold dpl
  rw [if_neg h.1, if_pos ⟨h.2.1, by omega⟩]
  rfl
theorem RX.fr {x sp i : Nat} {cs : List Int32} {M N M' : Mem} (h : RX x sp i cs M N) (e : M'.2 = M.2) : M'.2.2 2 = sp + 2 + 3 * i ∧ (M'.2.2 2 = x + 1 + 4 ∨ M'.2.2 2 = x + 1 + 7 ∨ M'.2.2 2 = x + 1 + 12 ∨ M'.2.2 2 = x + 1 + 15) := by
  rw [e]
  exact ⟨h.2.2.1, h.gd⟩
theorem bin_loop {x sp i l b len st0 : Nat} {e : Int32} {tp : Nat → Int32} {cs : List Int32} {cb : Nat → Int32 → Int32 → Mem → Option (Unit × Mem)} {sub : Mem → Option (Unit × Mem)} {MB : Mem → Option (Mem ⊕ (Unit × Mem))} (hl : l < 5) (hsub : PEx x sp i tp len (b + 1) (cb (x + 1) (Int32.ofNat (l + 1)) e) sub)
    (hop : ∀ M N st pos kd, LV x tp len st pos kd M N → ∃ u, f_X6_operatorHere (x + 1) (Int32.ofNat l) M = some (u, M) ∧ (u = 0 ∨ (bin u ∧ ¬ kd = 0)) ∧ (u = 0 → MB N = some (.inr ((), N))) ∧ (¬ u = 0 → ∀ N2 N3 N4, f_X11_stepOn (x + 95) N = some ((), N2) → sub N2 = some ((), N3) → f_X11_lay (x + 95) (trS u) N3 = some ((), N4) → MB N = some (.inl N4)))
    (hdead : ∀ N, ¬ N.1 (x + 95) 19 = 0 → MB N = some (.inr ((), N))) (hcs : cs.length ≤ st0) : ∀ (m k fc fm : Nat) (M N : Mem) (st pos : Nat) (kd : Int32) (ds : List Int32), len ≤ st + m → m + 1 < fc → m + 1 < fm → LV x tp len st pos kd M N → RX x sp i (cs ++ ds) M N → st0 + ds.length ≤ st → ¬ ds = [] → (∀ d, d ≤ b → dpl ds d = some (d + 1)) → k ≤ st → ∃ M' N', lop2 fc (l_X6_readExpr_50 (x + 1) (Int32.ofNat l) e 0 700 cb) (Int32.ofNat k) M = some ((), M') ∧ lop1 fm MB N = some ((), N') ∧ ER x sp i tp len b st0 cs M N M' N' := by
  have e1 : Int32.ofNat l + 1 = Int32.ofNat (l + 1) := i_ad1
  intro m
  induction m with
  | zero =>
    intro k fc fm M N st pos kd ds hm hfc hfm hL hR hst hne hd hk
    obtain ⟨fc, rfl⟩ : ∃ q, fc = q + 1 := ⟨fc - 1, by omega⟩
    obtain ⟨fm, rfl⟩ : ∃ q, fm = q + 1 := ⟨fm - 1, by omega⟩
    obtain ⟨u, o1, o2, o3, o4⟩ := hop M N st pos kd hL
    have hle := hL.le
    have hu : u = 0 := by
      rcases o2 with g | ⟨_, g⟩
      · exact g
      · have := hle.2.2.2 g
        omega
    subst hu
    exact ⟨M, N, lop2_inr (exBody o1), lop1_inr (o3 rfl), frE.rf, frG.rf, Or.inl ⟨st, pos, kd, ds, hL, hR, hst, hne, hd⟩⟩
  | succ m ih =>
    intro k fc fm M N st pos kd ds hm hfc hfm hL hR hst hne hd hk
    obtain ⟨fc, rfl⟩ : ∃ q, fc = q + 1 := ⟨fc - 1, by omega⟩
    obtain ⟨fm, rfl⟩ : ∃ q, fm = q + 1 := ⟨fm - 1, by omega⟩
    obtain ⟨u, o1, o2, o3, o4⟩ := hop M N st pos kd hL
    have hle := hL.le
    by_cases hu : u = 0
    · subst hu
      exact ⟨M, N, lop2_inr (exBody o1), lop1_inr (o3 rfl), frE.rf, frG.rf, Or.inl ⟨st, pos, kd, ds, hL, hR, hst, hne, hd⟩⟩
    · obtain ⟨hbin, hkd⟩ := o2.resolve_left hu
      have hsp := hle.2.2.2 hkd
      obtain ⟨st1, pos1, kd1, M2, N2, a1, a2, hL2, hp1, fM2, fN2⟩ := hL.adv
      have hR2 := hR.cg fM2 fN2
      have hlen : (cs ++ ds).length = cs.length + ds.length := List.length_append
      obtain ⟨M3, N3, s1, s2, fE3, fG3, hres⟩ := hsub M2 N2 st1 pos1 kd1 (cs ++ ds) hL2 hR2 (by omega)
      have hk7 : ¬ (700 : Int32) ≤ Int32.ofNat k := fun g => by
        have := (i_le (a := 700) (b := k) (by omega) (by omega)).mp g
        omega
      have body : ∀ M4, f_X7_add (M3.2.2 2) u M3 = some ((), M4) → l_X6_readExpr_50 (x + 1) (Int32.ofNat l) e 0 700 cb (Int32.ofNat k) M = some (.inl (Int32.ofNat (k + 1), M4)) := fun M4 h4 => by
        refine Wp.eq ?_
        unfold l_X6_readExpr_50
        refine Wp.j1 (Wp.ng hk7 (Wp.cl o1 (Wp.ng hu (Wp.cl o1 (Wp.cl a1 ?_)))))
        rw [e1]
        refine Wp.cl s1 (Wp.gp (hR2.fr fE3.2).2 (Wp.cl h4 (Wp.nam ?_)))
        rw [i_ad1]
        exact Wp.ret rfl
      rcases hres with ⟨st3, pos3, kd3, ds2, hL3, hR3, hst3, hne3, hd3⟩ | ⟨f, p, hD⟩
      · have hle3 := hL3.le
        have hlen2 : (cs ++ ds ++ ds2).length = cs.length + ds.length + ds2.length := by rw [List.length_append, hlen]
        obtain ⟨M4, N4, b1, b2, hL4, hR4, fM4, fN4⟩ := add_lay (u := u) hL3 hR3 (by omega)
        have hB := o4 hu N2 N3 N4 a2 s2 b2
        have hassoc : cs ++ ds ++ ds2 ++ [u] = cs ++ (ds ++ ds2 ++ [u]) := by simp
        rw [hassoc] at hR4
        have hlen4 : (ds ++ ds2 ++ [u]).length = ds.length + ds2.length + 1 := by simp; omega
        obtain ⟨M5, N5, r1, r2, fE5, fG5, r5⟩ := ih (k + 1) fc fm M4 N4 st3 pos3 kd3 (ds ++ ds2 ++ [u]) (by omega) (by omega) (by omega) hL4 hR4 (by omega) (by simp) (fun d hdb => by
          rw [dpl_app, dpl_app, hd d hdb]
          show ((dpl ds2 (d + 1)).bind (dpl [u])) = some (d + 1)
          rw [hd3 (d + 1) (by omega)]
          exact dpl_bin hbin) (by omega)
        exact ⟨M5, N5, (lop2_inl (body M4 b1)).trans r1, (lop1_inl hB).trans r2, ((fM2.E.tr fE3).tr fM4).tr fE5, ((fN2.G.tr fG3).tr fN4).tr fG5, r5⟩
      · obtain ⟨M4, b1, fM4, g4⟩ := add_any (x := x) (sp := sp) (i := i) (u := u) (M := M3) hR.1 hR.2.1 (hR2.fr fE3.2).1
        have hB := o4 hu N2 N3 N3 a2 s2 (lay0 hD.n19)
        have hD4 : DD x f p M4 N3 := hD.cg (fun k _ => g4 k) (fun _ _ => rfl)
        obtain ⟨fc, rfl⟩ : ∃ q, fc = q + 1 := ⟨fc - 1, by omega⟩
        obtain ⟨fm, rfl⟩ : ∃ q, fm = q + 1 := ⟨fm - 1, by omega⟩
        exact ⟨M4, N3, (lop2_inl (body M4 b1)).trans (lop2_inr (exBody (op0 hl (by rw [hD4.2.2.2.1]; decide) (by rw [hD4.2.2.2.1]; decide)))), (lop1_inl hB).trans (lop1_inr (hdead N3 hD.n19)), ((fM2.E.tr fE3).tr fM4), (fN2.G.tr fG3), Or.inr ⟨f, p, hD4⟩⟩
theorem lvl_bin {x sp i l b len : Nat} {e : Int32} {tp : Nat → Int32} {cb : Nat → Int32 → Int32 → Mem → Option (Unit × Mem)} {sub : Mem → Option (Unit × Mem)} {MB : Mem → Option (Mem ⊕ (Unit × Mem))} (hl : l < 5) (hsub : PEx x sp i tp len (b + 1) (cb (x + 1) (Int32.ofNat (l + 1)) e) sub)
    (hop : ∀ M N st pos kd, LV x tp len st pos kd M N → ∃ u, f_X6_operatorHere (x + 1) (Int32.ofNat l) M = some (u, M) ∧ (u = 0 ∨ (bin u ∧ ¬ kd = 0)) ∧ (u = 0 → MB N = some (.inr ((), N))) ∧ (¬ u = 0 → ∀ N2 N3 N4, f_X11_stepOn (x + 95) N = some ((), N2) → sub N2 = some ((), N3) → f_X11_lay (x + 95) (trS u) N3 = some ((), N4) → MB N = some (.inl N4)))
    (hdead : ∀ N, ¬ N.1 (x + 95) 19 = 0 → MB N = some (.inr ((), N))) : PEx x sp i tp len b (fun M => bd (cb (x + 1) (Int32.ofNat (l + 1)) e M) (fun _ M4 => lop2 FU (l_X6_readExpr_50 (x + 1) (Int32.ofNat l) e 0 700 cb) (0 : Int32) M4)) (fun N => bd (sub N) (fun _ M5 => lop1 FU MB M5)) := by
  intro M N st pos kd cs hL hR hcs
  obtain ⟨M3, N3, s1, s2, fE3, fG3, hres⟩ := hsub M N st pos kd cs hL hR hcs
  rcases hres with ⟨st3, pos3, kd3, ds, hL3, hR3, hst3, hne3, hd3⟩ | ⟨f, p, hD⟩
  · have hle := hL3.le
    obtain ⟨M5, N5, r1, r2, fE5, fG5, r5⟩ := bin_loop hl hsub hop hdead hcs len 0 FU FU M3 N3 st3 pos3 kd3 ds (by omega) (by unfold FU; omega) (by unfold FU; omega) hL3 hR3 hst3 hne3 (fun d hd => hd3 d (by omega)) (Nat.zero_le _)
    refine ⟨M5, N5, ?_, ?_, fE3.tr fE5, fG3.tr fG5, r5⟩
    · show bd (cb (x + 1) (Int32.ofNat (l + 1)) e M) _ = _
      rw [bd_eq s1]
      exact r1
    · show bd (sub N) _ = _
      rw [bd_eq s2]
      exact r2
  · refine ⟨M3, N3, ?_, ?_, fE3, fG3, Or.inr ⟨f, p, hD⟩⟩
    · show bd (cb (x + 1) (Int32.ofNat (l + 1)) e M) _ = _
      rw [bd_eq s1]
      exact lop2_FU (exBody (op0 hl (by rw [hD.2.2.2.1]; decide) (by rw [hD.2.2.2.1]; decide)))
    · show bd (sub N) _ = _
      rw [bd_eq s2]
      exact lop1_FU (hdead N3 hD.n19)
