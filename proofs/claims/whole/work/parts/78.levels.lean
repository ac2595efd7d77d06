/-! The reader: the level of not, less and equal; all levels -/
theorem l50_end {x l : Nat} {e z1 z5 k : Int32} {M M' : Mem} {cb : Nat → Int32 → Int32 → Mem → Option (Unit × Mem)} (h : z5 ≤ k ∨ f_X6_operatorHere (x + 1) (Int32.ofNat l) M = some (0, M)) (hn : lop2 FU (l_X6_readExpr_102 (x + 1) z1) (0 : Int32) M = some (.inr ((), M'))) : l_X6_readExpr_50 (x + 1) (Int32.ofNat l) e z1 z5 cb k M = some (.inr ((), M')) := by
  refine Wp.eq ?_
  unfold l_X6_readExpr_50
  have fin : Wp (lop2 FU (l_X6_readExpr_102 (x + 1) z1) (0 : Int32) M) (fun q => q = (.inr ((), M') : (Int32 × Mem) ⊕ (Unit × Mem))) := ⟨_, hn, rfl⟩
  by_cases g : z5 ≤ k
  · exact Wp.j1 (Wp.ps g fin)
  · exact Wp.j1 (Wp.ng g (Wp.cl (h.resolve_left g) (Wp.ps rfl fin)))
theorem ex2 {x fc n : Nat} {e : Int32} {M M1 M2 M3 : Mem} (h1 : f_X6_readNots (x + 1) M = some (Int32.ofNat n, M1)) (h2 : f_X6_readExpr fc (x + 1) (Int32.ofNat 3) e M1 = some ((), M2)) (h3 : lop2 FU (l_X6_readExpr_50 (x + 1) (Int32.ofNat 2) e (Int32.ofNat n) 1 (f_X6_readExpr fc)) (0 : Int32) M2 = some ((), M3)) : f_X6_readExpr (fc + 1) (x + 1) (Int32.ofNat 2) e M = some ((), M3) := by
  show b_X6_readExpr (fam_X6_readExpr fc).1 (fam_X6_readExpr fc).2 (x + 1) (Int32.ofNat 2) e M = some ((), M3)
  refine Wp.eq ?_
  unfold b_X6_readExpr
  exact Wp.ps (by decide) (Wp.j2 (Wp.ps (by decide) (Wp.cl h1 (Wp.cl h2 (Wp.j1 (Wp.ps (by decide) ⟨_, h3, rfl⟩))))))
theorem lvl_not {x sp i fc fs b len : Nat} {e e' : Int32} {tp : Nat → Int32} (hsub : PEx x sp i tp len (b + 1) (f_X6_readExpr fc (x + 1) (Int32.ofNat 3) e) (f_X11_readSum (fs + 3) (x + 95) e')) (hdC : ∀ f p M N, DD x f p M N → f_X6_readExpr fc (x + 1) (Int32.ofNat 3) e M = some ((), M)) : PEx x sp i tp len b (f_X6_readExpr (fc + 1) (x + 1) (Int32.ofNat 2) e) (f_X11_readNot (fs + 4) (x + 95) e') := by
  intro M N st pos kd cs hL hR hcs
  obtain ⟨n, M1, N1, _, hn6, c1, fR, fT, c2⟩ := nots_ok (fs := fs) (e := e') 6 0 FU M N st pos kd (by omega) (by unfold FU; omega) hL
  have hnots : f_X6_readNots (x + 1) M = some (Int32.ofNat n, M1) := c1
  have hR1 := hR.fr (M' := M1) fR.2
  have op0D : ∀ f p M N, DD x f p M N → f_X6_operatorHere (x + 1) (Int32.ofNat 2) M = some (0, M) := fun f p M N h => op0 (by decide) (by rw [h.2.2.2.1]; decide) (by rw [h.2.2.2.1]; decide)
  rcases c2 with ⟨st1, pos1, kd1, hL1, hst1, his, hmod⟩ | ⟨f, p, hD, hmod⟩
  · rw [Nat.sub_zero] at hst1
    have mdl : ∀ N3, (∀ fm, lop2 (fm + 1) (l_X11_readNot_2 (x + 95) e' (f_X11_readSum (fs + 3))) (Int32.ofNat n) N1 = some ((), N3)) → f_X11_readNot (fs + 4) (x + 95) e' N = some ((), N3) := fun N3 h => by
      show lop2 FU (l_X11_readNot_2 (x + 95) e' (f_X11_readSum (fs + 3))) (Int32.ofNat 0) N = some ((), N3)
      have hFU : FU = (FU - 7 + (6 - n) + 1) + (n - 0) := by unfold FU; omega
      rw [hFU, hmod]
      exact h _
    have hRX1 := hR.cg fR fT
    have hle1 := hL1.le
    obtain ⟨M2, N2, s1, s2, fE2, fG2, hres⟩ := hsub M1 N1 st1 pos1 kd1 cs hL1 hRX1 (by omega)
    have hR2 := hRX1.fr (M' := M2) fE2.2
    rcases hres with ⟨st2, pos2, kd2, ds, hL2, hRX2, hst2, hne, hd⟩ | ⟨f, p, hD⟩
    · have hle2 := hL2.le
      have m60 := hL2.mark (c := 60) (by decide)
      have m61 := hL2.mark (c := 61) (by decide)
      have hlen : (cs ++ ds).length = cs.length + ds.length := List.length_append
      have hop : f_X6_operatorHere (x + 1) (Int32.ofNat 2) M2 = some (op2 kd2 60 61 (-8) (-9), M2) := by
        refine Wp.eq ?_
        unfold f_X6_operatorHere op2
        rw [hL2.kd]
        refine Wp.ng (by decide) (Wp.ng (by decide) (Wp.ng (by decide) (Wp.ps rfl (Wp.j1 (Wp.br (fun g => Wp.ret ?_) (fun g => Wp.br (fun g2 => Wp.ret ?_) (fun g2 => Wp.ret ?_)))))))
        · rw [if_pos g]
        · rw [if_neg g, if_pos g2]
        · rw [if_neg g, if_neg g2]
      by_cases hu : op2 kd2 60 61 (-8) (-9) = 0
      · have hk60 : ¬ kd2 = 60 := fun q => by
          unfold op2 at hu
          rw [if_pos q] at hu
          exact absurd hu (by decide)
        have hk61 : ¬ kd2 = 61 := fun q => by
          unfold op2 at hu
          rw [if_neg hk60, if_pos q] at hu
          exact absurd hu (by decide)
        rw [if_neg hk60] at m60
        rw [if_neg hk61] at m61
        rw [hu] at hop
        obtain ⟨M3, N3, r1, r2, hL3, hR3, f3, g3⟩ := nadd_ok hn6 n 0 FU FU M2 N2 (cs ++ ds) (by omega) (by unfold FU; omega) (by unfold FU; omega) hL2 hRX2 (by omega)
        rw [List.append_assoc] at hR3
        refine ⟨M3, N3, ex2 hnots s1 (lop2_FU (l50_end (Or.inr hop) r1)), mdl _ (fun fm => lop2_inr (Wp.eq ?_)), (fR.E.tr fE2).tr f3, (fT.G.tr fG2).tr g3, Or.inl ⟨st2, pos2, kd2, ds ++ List.replicate n (-5), hL3, hR3, by rw [List.length_append, List.length_replicate]; omega, by simp [hne], fun d hdb => ?_⟩⟩
        · unfold l_X11_readNot_2
          exact Wp.cl his (Wp.ps rfl (Wp.cl s2 (Wp.cl m60 (Wp.j1 (Wp.j1 (Wp.ps rfl (Wp.cl m61 (Wp.ps rfl ⟨_, r2, rfl⟩))))))))
        · rw [dpl_app, hd d (by omega)]
          exact dpl_nots n
      · have hbin : bin (op2 kd2 60 61 (-8) (-9)) ∧ (kd2 = 60 ∨ kd2 = 61) := by
          unfold op2 at hu ⊢
          by_cases q : kd2 = 60
          · rw [if_pos q]
            exact ⟨⟨by decide, by decide, by decide⟩, Or.inl q⟩
          · by_cases q2 : kd2 = 61
            · rw [if_neg q, if_pos q2]
              exact ⟨⟨by decide, by decide, by decide⟩, Or.inr q2⟩
            · rw [if_neg q, if_neg q2] at hu
              exact absurd rfl hu
        obtain ⟨hbin, hk2⟩ := hbin
        have hsp := hle2.2.2.2 (fun q => by rcases hk2 with e | e <;> rw [q] at e <;> exact absurd e (by decide))
        obtain ⟨st3, pos3, kd3, M3, N3, a1, a2, hL3, hp3, fR3, fT3⟩ := hL2.adv
        have hRX3 := hRX2.cg fR3 fT3
        obtain ⟨M4, N4, t1, t2, fE4, fG4, hres4⟩ := hsub M3 N3 st3 pos3 kd3 (cs ++ ds) hL3 hRX3 (by omega)
        have hR4 := hRX3.fr (M' := M4) fE4.2
        have body : ∀ M5, f_X7_add (M4.2.2 2) (op2 kd2 60 61 (-8) (-9)) M4 = some ((), M5) → l_X6_readExpr_50 (x + 1) (Int32.ofNat 2) e (Int32.ofNat n) 1 (f_X6_readExpr fc) 0 M2 = some (.inl (1, M5)) := fun M5 h5 => by
          refine Wp.eq ?_
          unfold l_X6_readExpr_50
          exact Wp.j1 (Wp.ng (by decide) (Wp.cl hop (Wp.ng hu (Wp.cl hop (Wp.cl a1 (Wp.cl t1 (Wp.gp hR4.2 (Wp.cl h5 (Wp.nam (Wp.ret rfl))))))))))
        have lp : ∀ M5 M6, f_X7_add (M4.2.2 2) (op2 kd2 60 61 (-8) (-9)) M4 = some ((), M5) → lop2 FU (l_X6_readExpr_102 (x + 1) (Int32.ofNat n)) (0 : Int32) M5 = some (.inr ((), M6)) → lop2 FU (l_X6_readExpr_50 (x + 1) (Int32.ofNat 2) e (Int32.ofNat n) 1 (f_X6_readExpr fc)) (0 : Int32) M2 = some ((), M6) := fun M5 M6 h5 h6 => by
          show lop2 (999998 + 1 + 1) _ _ _ = _
          exact (lop2_inl (body M5 h5)).trans (lop2_inr (l50_end (Or.inl (by decide)) h6))
        have mfin : ∀ N5 N6, f_X11_lay (x + 95) (trS (op2 kd2 60 61 (-8) (-9))) N4 = some ((), N5) → lop2 FU (l_X11_readNot_95 (x + 95) (Int32.ofNat n)) (0 : Int32) N5 = some (.inr ((), N6)) → f_X11_readNot (fs + 4) (x + 95) e' N = some ((), N6) := fun N5 N6 h5 h6 => mdl _ (fun fm => lop2_inr (Wp.eq (by
          unfold l_X11_readNot_2
          refine Wp.cl his (Wp.ps rfl (Wp.cl s2 ?_))
          rcases hk2 with q | q
          · rw [if_pos q] at m60
            have ho : trS (op2 kd2 60 61 (-8) (-9)) = -24 := by
              unfold op2
              rw [if_pos q]
              decide
            rw [ho] at h5
            exact Wp.cl m60 (Wp.j1 (Wp.j1 (Wp.ng (by decide) (Wp.cl m60 (Wp.j1 (Wp.ng (by decide) (Wp.cl a2 (Wp.cl t2 (Wp.cl h5 ⟨_, h6, rfl⟩)))))))))
          · have nq : ¬ kd2 = 60 := fun g => by rw [g] at q; exact absurd q (by decide)
            rw [if_neg nq] at m60
            rw [if_pos q] at m61
            have ho : trS (op2 kd2 60 61 (-8) (-9)) = -25 := by
              unfold op2
              rw [if_neg nq, if_pos q]
              decide
            rw [ho] at h5
            exact Wp.cl m60 (Wp.j1 (Wp.j1 (Wp.ps rfl (Wp.cl m61 (Wp.ng (by decide) (Wp.cl m60 (Wp.j1 (Wp.ps rfl (Wp.cl a2 (Wp.cl t2 (Wp.cl h5 ⟨_, h6, rfl⟩)))))))))))) ))
        rcases hres4 with ⟨st4, pos4, kd4, ds4, hL4, hRX4, hst4, hne4, hd4⟩ | ⟨f, p, hD⟩
        · have hle4 := hL4.le
          have hlen4 : (cs ++ ds ++ ds4).length = cs.length + ds.length + ds4.length := by rw [List.length_append, hlen]
          obtain ⟨M5, N5, b1, b2, hL5, hRX5, f5, g5⟩ := add_lay (u := op2 kd2 60 61 (-8) (-9)) hL4 hRX4 (by omega)
          have hlen5 : (cs ++ ds ++ ds4 ++ [op2 kd2 60 61 (-8) (-9)]).length = cs.length + ds.length + ds4.length + 1 := by rw [List.length_append, hlen4]; rfl
          obtain ⟨M6, N6, r1, r2, hL6, hR6, f6, g6⟩ := nadd_ok hn6 n 0 FU FU M5 N5 (cs ++ ds ++ ds4 ++ [op2 kd2 60 61 (-8) (-9)]) (by omega) (by unfold FU; omega) (by unfold FU; omega) hL5 hRX5 (by omega)
          have hassoc : cs ++ ds ++ ds4 ++ [op2 kd2 60 61 (-8) (-9)] ++ List.replicate n (-5) = cs ++ (ds ++ ds4 ++ [op2 kd2 60 61 (-8) (-9)] ++ List.replicate n (-5)) := by simp only [List.append_assoc]
          rw [hassoc] at hR6
          refine ⟨M6, N6, ex2 hnots s1 (lp M5 M6 b1 r1), mfin N5 N6 b2 r2, ((((fR.E.tr fE2).tr fR3.E).tr fE4).tr f5).tr f6, ((((fT.G.tr fG2).tr fT3.G).tr fG4).tr g5).tr g6, Or.inl ⟨st4, pos4, kd4, ds ++ ds4 ++ [op2 kd2 60 61 (-8) (-9)] ++ List.replicate n (-5), hL6, hR6, ?_, ?_, fun d hdb => ?_⟩⟩
          · simp only [List.length_append, List.length_replicate, List.length_singleton]
            omega
          · intro q
            have := congrArg List.length q
            simp at this
          · rw [dpl_app, dpl_app, dpl_app, hd d (by omega)]
            show (((dpl ds4 (d + 1)).bind (dpl [op2 kd2 60 61 (-8) (-9)])).bind (dpl (List.replicate n (-5)))) = some (d + 1)
            rw [hd4 (d + 1) (by omega)]
            show ((dpl [op2 kd2 60 61 (-8) (-9)] (d + 2)).bind (dpl (List.replicate n (-5)))) = some (d + 1)
            rw [dpl_bin hbin]
            exact dpl_nots n
        · obtain ⟨M5, b1, f5, g5⟩ := add_any (x := x) (sp := sp) (i := i) (u := op2 kd2 60 61 (-8) (-9)) (M := M4) hR.1 hR.2.1 hR4.1
          obtain ⟨M6, r1, f6, g6⟩ := nadd_dead (x := x) hR.1 hR.2.1 hn6 n 0 FU M5 (by omega) (by unfold FU; omega) (by rw [f5.2]; exact hR4.1)
          refine ⟨M6, N4, ex2 hnots s1 (lp M5 M6 b1 r1), mfin N4 N4 (lay0 hD.n19) (lay_loop hD.n19 (by omega) n 0 FU (by omega) (by unfold FU; omega)), ((((fR.E.tr fE2).tr fR3.E).tr fE4).tr f5).tr f6, (((fT.G.tr fG2).tr fT3.G).tr fG4), Or.inr ⟨f, p, hD.cg (fun k _ => (g6 k).trans (g5 k)) (fun _ _ => rfl)⟩⟩
    · obtain ⟨M3, r1, f3, g3⟩ := nadd_dead (x := x) hR.1 hR.2.1 hn6 n 0 FU M2 (by omega) (by unfold FU; omega) hR2.1
      refine ⟨M3, N2, ex2 hnots s1 (lop2_FU (l50_end (Or.inr (op0D f p _ _ hD)) r1)), mdl _ (fun fm => lop2_inr (Wp.eq ?_)), (fR.E.tr fE2).tr f3, (fT.G.tr fG2), Or.inr ⟨f, p, hD.cg (fun k _ => g3 k) (fun _ _ => rfl)⟩⟩
      unfold l_X11_readNot_2
      refine Wp.cl his (Wp.ps rfl (Wp.cl s2 (Wp.cl (isMarked0 (Or.inl hD.n19)) (Wp.j1 (Wp.j1 (Wp.ps rfl (Wp.cl (isMarked0 (Or.inl hD.n19)) (Wp.ps rfl ?_))))))))
      exact ⟨_, lay_loop hD.n19 (by omega) n 0 FU (by omega) (by unfold FU; omega), rfl⟩
  · obtain ⟨M3, r1, f3, g3⟩ := nadd_dead (x := x) hR.1 hR.2.1 hn6 n 0 FU M1 (by omega) (by unfold FU; omega) hR1.1
    refine ⟨M3, N1, ex2 hnots (hdC f p _ _ hD) (lop2_FU (l50_end (Or.inr (op0D f p _ _ hD)) r1)), ?_, fR.E.tr f3, fT.G, Or.inr ⟨f, p, hD.cg (fun k _ => g3 k) (fun _ _ => rfl)⟩⟩
    show lop2 FU (l_X11_readNot_2 (x + 95) e' (f_X11_readSum (fs + 3))) (Int32.ofNat 0) N = some ((), N1)
    have hFU : FU = (FU - 8) + (8 - 0) := by unfold FU; omega
    rw [hFU]
    exact hmod _
