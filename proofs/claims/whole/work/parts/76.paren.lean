/-! The reader: brackets; what an expression begins with -/
abbrev okK (kd : Int32) : Prop := kd = 3 ∨ kd = 2 ∨ kd = 40
theorem exp_bad {x fm : Nat} {e : Int32} {tp : Nat → Int32} {len st pos : Nat} {kd : Int32} {M N N' : Mem} (hL : LV x tp len st pos kd M N) (hb : ¬ okK kd) (hw : f_X11_wrong (x + 95) 1 N = some ((), N')) (hd : ¬ N'.1 (x + 95) 19 = 0) : f_X11_readExpression (fm + 6) (x + 95) e N = some ((), N') := by
  show b_X11_readExpression (fam_X11_readExpression (fm + 5)).1 (fam_X11_readExpression (fm + 5)).2.1 (fam_X11_readExpression (fm + 5)).2.2.1 (fam_X11_readExpression (fm + 5)).2.2.2.1 (fam_X11_readExpression (fm + 5)).2.2.2.2.1 (fam_X11_readExpression (fm + 5)).2.2.2.2.2 (x + 95) e N = some ((), N')
  have hm := hL.mark (c := 40) (by decide)
  rw [if_neg (fun q => hb (Or.inr (Or.inr q)))] at hm
  refine Wp.eq ?_
  unfold b_X11_readExpression
  refine Wp.ps hL.2.2.2.1 (Wp.j2 (Wp.j1 (Wp.ng ?_ (Wp.ng ?_ (Wp.cl hm (Wp.ps rfl (Wp.j1 (Wp.ps rfl (Wp.cl hw ?_)))))))))
  · rw [hL.md]
    exact fun q => hb (Or.inl (md_is.1.mp q))
  · rw [hL.md]
    exact fun q => hb (Or.inr (Or.inl (md_is.2.1.mp q)))
  · exact Wp.cl (dAnd (fm := fm) hd) ⟨_, lop1_FU (dExpL hd), rfl⟩
theorem exp_deep {x fm : Nat} {tp : Nat → Int32} {len st pos : Nat} {kd : Int32} {M N N' : Mem} (hL : LV x tp len st pos kd M N) (hb : okK kd) (hw : f_X11_wrong (x + 95) 2 N = some ((), N')) (hd : ¬ N'.1 (x + 95) 19 = 0) : f_X11_readExpression (fm + 6) (x + 95) 6 N = some ((), N') := by
  show b_X11_readExpression (fam_X11_readExpression (fm + 5)).1 (fam_X11_readExpression (fm + 5)).2.1 (fam_X11_readExpression (fm + 5)).2.2.1 (fam_X11_readExpression (fm + 5)).2.2.2.1 (fam_X11_readExpression (fm + 5)).2.2.2.2.1 (fam_X11_readExpression (fm + 5)).2.2.2.2.2 (x + 95) 6 N = some ((), N')
  have hm := hL.mark (c := 40) (by decide)
  have fin : Wp (bd (f_X11_wrong (x + 95) (2 : Int32) N) (fun _ M16 => bd ((fam_X11_readExpression (fm + 5)).2.1 (x + 95) 6 M16) (fun _ M5 => lop1 FU (l_X11_readExpression_67 (x + 95) 6 (fam_X11_readExpression (fm + 5)).2.1) M5))) (fun q => q = ((), N')) := Wp.cl hw (Wp.cl (dAnd (fm := fm) hd) ⟨_, lop1_FU (dExpL hd), rfl⟩)
  refine Wp.eq ?_
  unfold b_X11_readExpression
  refine Wp.ps hL.2.2.2.1 (Wp.j2 (Wp.j1 ?_))
  rcases hb with g | g | g
  · exact Wp.ps (by rw [hL.md]; exact md_is.1.mpr g) (Wp.j1 (Wp.ng (by decide) (Wp.ps rfl fin)))
  · refine Wp.ng ?_ (Wp.ps (by rw [hL.md]; exact md_is.2.1.mpr g) (Wp.j1 (Wp.ng (by decide) (Wp.ps rfl fin))))
    rw [hL.md, g]
    decide
  · rw [if_pos g] at hm
    refine Wp.ng ?_ (Wp.ng ?_ (Wp.cl hm (Wp.ng (by decide) (Wp.j1 (Wp.ng (by decide) (Wp.ps rfl fin))))))
    · rw [hL.md, g]; decide
    · rw [hL.md, g]; decide
/-- an expression is begun, and goes on -/
theorem exp_go {x fm : Nat} {e : Int32} {tp : Nat → Int32} {len st pos : Nat} {kd : Int32} {M N : Mem} {Q : Unit × Mem → Prop} (hL : LV x tp len st pos kd M N) (hb : okK kd) (he : ¬ e = 6) (h : Wp (bd (f_X11_readAnd fm (x + 95) e N) (fun _ M5 => lop1 FU (l_X11_readExpression_67 (x + 95) e (f_X11_readAnd fm)) M5)) Q) : Wp (f_X11_readExpression (fm + 1) (x + 95) e N) Q := by
  show Wp (b_X11_readExpression (fam_X11_readExpression fm).1 (fam_X11_readExpression fm).2.1 (fam_X11_readExpression fm).2.2.1 (fam_X11_readExpression fm).2.2.2.1 (fam_X11_readExpression fm).2.2.2.2.1 (fam_X11_readExpression fm).2.2.2.2.2 (x + 95) e N) Q
  have hm := hL.mark (c := 40) (by decide)
  unfold b_X11_readExpression
  refine Wp.ps hL.2.2.2.1 (Wp.j2 (Wp.j1 ?_))
  rcases hb with g | g | g
  · exact Wp.ps (by rw [hL.md]; exact md_is.1.mpr g) (Wp.j1 (Wp.ng (by decide) (Wp.ng he h)))
  · refine Wp.ng ?_ (Wp.ps (by rw [hL.md]; exact md_is.2.1.mpr g) (Wp.j1 (Wp.ng (by decide) (Wp.ng he h))))
    rw [hL.md, g]
    decide
  · rw [if_pos g] at hm
    refine Wp.ng ?_ (Wp.ng ?_ (Wp.cl hm (Wp.ng (by decide) (Wp.j1 (Wp.ng (by decide) (Wp.ng he h))))))
    · rw [hL.md, g]; decide
    · rw [hL.md, g]; decide
theorem part_par {x sp i fm fc e len : Nat} {tp : Nat → Int32} (he : e ≤ 5) (hn : e + 1 < 6 → PEx x sp i tp len (5 * (e + 1)) (f_X6_readExpr fc (x + 1) (Int32.ofNat 0) (Int32.ofNat (e + 1))) (f_X11_readExpression (fm + 6) (x + 95) (Int32.ofNat (e + 1)))) : ∀ M N st pos kd cs, LV x tp len st pos kd M N → RX x sp i cs M N → cs.length ≤ st → kd = 40 → ∃ M' N', f_X6_readPart (fc + 1) (x + 1) (Int32.ofNat e) M = some ((), M') ∧ f_X11_readPart (fm + 7) (x + 95) (Int32.ofNat e) N = some ((), N') ∧ ER x sp i tp len (5 * e + 5) st cs M N M' N' := by
  intro M N st pos kd cs hL hR hcs hk
  have hle := hL.le
  have hk5 : M.1 (x + 1) 5 = 40 := hL.kd.trans hk
  have hmd : N.1 (x + 95) 15 = 3 := by rw [hL.md, hk]; rfl
  have h19 := hL.2.2.2.1
  have hkd : ¬ kd = 0 := by rw [hk]; decide
  have hsp := hle.2.2.2 hkd
  have ee : Int32.ofNat e + 1 = Int32.ofNat (e + 1) := i_ad1
  obtain ⟨st1, pos1, kd1, M1, N1, d1, d2, hL1, hp1, fM1, fN1⟩ := hL.adv
  have hm40 : f_X11_mark (x + 95) 40 N = some ((), N1) := by
    have hm := hL.mark (c := 40) (by decide)
    rw [if_pos hk] at hm
    refine Wp.eq ?_
    unfold f_X11_mark
    exact Wp.j1 (Wp.ps h19 (Wp.cl hm (Wp.ng (by decide) (Wp.j1 (Wp.ps h19 (Wp.cl d2 (Wp.ret rfl)))))))
  have hR1 := hR.cg fM1 fN1
  have mdl : ∀ N2 N3, f_X11_readExpression (fm + 6) (x + 95) (Int32.ofNat (e + 1)) N1 = some ((), N2) → f_X11_mark (x + 95) 41 N2 = some ((), N3) → f_X11_readPart (fm + 7) (x + 95) (Int32.ofNat e) N = some ((), N3) := fun N2 N3 a b => by
    show b_X11_readPart (fam_X11_readExpression (fm + 6)).1 (fam_X11_readExpression (fm + 6)).2.1 (fam_X11_readExpression (fm + 6)).2.2.1 (fam_X11_readExpression (fm + 6)).2.2.2.1 (fam_X11_readExpression (fm + 6)).2.2.2.2.1 (fam_X11_readExpression (fm + 6)).2.2.2.2.2 (x + 95) (Int32.ofNat e) N = some ((), N3)
    refine Wp.eq ?_
    unfold b_X11_readPart
    rw [ee]
    exact Wp.ps h19 (Wp.ng (by rw [hmd]; decide) (Wp.ng (by rw [hmd]; decide) (Wp.cl hm40 (Wp.cl a (Wp.cl b (Wp.ret rfl))))))
  by_cases hd6 : e + 1 < 6
  · obtain ⟨M2, N2, s1, s2, fE2, fG2, hres⟩ := hn hd6 M1 N1 st1 pos1 kd1 cs hL1 hR1 (by omega)
    have n6 : ¬ (6 : Int32) ≤ Int32.ofNat (e + 1) := fun g => by
      have := (i_le (a := 6) (b := e + 1) (by omega) (by omega)).mp g
      omega
    have cls : ∀ M3, f_X6_passSign (x + 1) 41 M2 = some ((), M3) → f_X6_readPart (fc + 1) (x + 1) (Int32.ofNat e) M = some ((), M3) := fun M3 h => by
      show b_X6_readPart (fam_X6_readExpr fc).1 (fam_X6_readExpr fc).2 (x + 1) (Int32.ofNat e) M = some ((), M3)
      refine Wp.eq ?_
      unfold b_X6_readPart
      rw [ee]
      exact Wp.j1 (Wp.ng (by rw [hk5]; decide) (Wp.ng (by rw [hk5]; decide) (Wp.ps hk5 (Wp.cl d1 (Wp.j1 (Wp.ng n6 (Wp.cl s1 (Wp.cl h (Wp.ret rfl)))))))))
    rcases hres with ⟨st2, pos2, kd2, ds, hL2, hR2, hst2, hne, hd⟩ | ⟨f, p, hD⟩
    · obtain ⟨M3, N3, g1, g2, fM3, fN3, h3⟩ := hL2.sign (c := 41) (by decide)
      have hle2 := hL2.le
      refine ⟨M3, N3, cls _ g1, mdl _ _ s2 g2, (fM1.E.tr fE2).tr fM3.E, (fN1.G.tr fG2).tr fN3.G, ?_⟩
      rcases h3 with ⟨_, st3, pos3, kd3, hL3, hp3⟩ | ⟨_, hD⟩
      · exact Or.inl ⟨st3, pos3, kd3, ds, hL3, hR2.cg fM3 fN3, by omega, hne, fun d hdb => hd d (by omega)⟩
      · exact Or.inr ⟨1, _, hD⟩
    · obtain ⟨g1, g2⟩ := hD.sign (c := 41) (by decide)
      exact ⟨M2, N2, cls _ g1, mdl _ _ s2 g2, fM1.E.tr fE2, fN1.G.tr fG2, Or.inr ⟨f, p, hD⟩⟩
  · have he5 : e = 5 := by omega
    subst he5
    have p6 : (6 : Int32) ≤ Int32.ofNat (5 + 1) := by decide
    have cls : ∀ M2 z, z = (if okK kd1 then (2 : Int32) else 1) → f_X6_fail (x + 1) z M1 = some ((), M2) → f_X6_passSign (x + 1) 41 M2 = some ((), M2) → f_X6_readPart (fc + 1) (x + 1) (Int32.ofNat 5) M = some ((), M2) := fun M2 z hz hf hp => by
      show b_X6_readPart (fam_X6_readExpr fc).1 (fam_X6_readExpr fc).2 (x + 1) (Int32.ofNat 5) M = some ((), M2)
      refine Wp.eq ?_
      unfold b_X6_readPart
      rw [ee]
      have hk1 := hL1.kd
      have fin2 : okK kd1 → Wp (bd (f_X6_fail (x + 1) (2 : Int32) M1) (fun _ M11 => bd (f_X6_passSign (x + 1) (41 : Int32) M11) (fun _ M8 => some ((), M8)))) (fun q => q = ((), M2)) := fun hok => by
        rw [if_pos hok] at hz
        rw [hz] at hf
        exact Wp.cl hf (Wp.cl hp (Wp.ret rfl))
      refine Wp.j1 (Wp.ng (by rw [hk5]; decide) (Wp.ng (by rw [hk5]; decide) (Wp.ps hk5 (Wp.cl d1 (Wp.j1 (Wp.ps p6 (Wp.j1 (Wp.j0 ?_))))))))
      rw [hk1]
      by_cases a3 : kd1 = 3
      · exact Wp.ps a3 (fin2 (Or.inl a3))
      · by_cases a2 : kd1 = 2
        · exact Wp.ng a3 (Wp.ps a2 (fin2 (Or.inr (Or.inl a2))))
        · by_cases a4 : kd1 = 40
          · exact Wp.ng a3 (Wp.ng a2 (Wp.ps a4 (fin2 (Or.inr (Or.inr a4)))))
          · refine Wp.ng a3 (Wp.ng a2 (Wp.ng a4 ?_))
            rw [if_neg (show ¬ okK kd1 from fun q => Or.elim q a3 (fun q => Or.elim q a2 a4))] at hz
            rw [hz] at hf
            exact Wp.cl hf (Wp.cl hp (Wp.ret rfl))
    by_cases hok : okK kd1
    · obtain ⟨M2, N2, f1, f2, hD, fR, fT⟩ := hL1.fail (f := 2) (by decide)
      obtain ⟨g1, g2⟩ := hD.sign (c := 41) (by decide)
      exact ⟨M2, N2, cls M2 2 (by rw [if_pos hok]) f1 g1, mdl _ _ (exp_deep hL1 hok f2 hD.n19) g2, fM1.E.tr fR.E, fN1.G.tr fT.G, Or.inr ⟨2, _, hD⟩⟩
    · obtain ⟨M2, N2, f1, f2, hD, fR, fT⟩ := hL1.fail (f := 1) (by decide)
      obtain ⟨g1, g2⟩ := hD.sign (c := 41) (by decide)
      exact ⟨M2, N2, cls M2 1 (by rw [if_neg hok]) f1 g1, mdl _ _ (exp_bad hL1 hok f2 hD.n19) g2, fM1.E.tr fR.E, fN1.G.tr fT.G, Or.inr ⟨1, _, hD⟩⟩
theorem part_all {x sp i fm fc e len : Nat} {tp : Nat → Int32} (he : e ≤ 5) (hn : e + 1 < 6 → PEx x sp i tp len (5 * (e + 1)) (f_X6_readExpr fc (x + 1) (Int32.ofNat 0) (Int32.ofNat (e + 1))) (f_X11_readExpression (fm + 6) (x + 95) (Int32.ofNat (e + 1)))) : PEx x sp i tp len (5 * e + 5) (f_X6_readPart (fc + 1) (x + 1) (Int32.ofNat e)) (f_X11_readPart (fm + 7) (x + 95) (Int32.ofNat e)) := by
  intro M N st pos kd cs hL hR hcs
  by_cases k3 : kd = 3
  · exact part_num (by omega) M N st pos kd cs hL hR hcs k3
  · by_cases k2 : kd = 2
    · exact part_word (by omega) M N st pos kd cs hL hR hcs k2
    · by_cases k4 : kd = 40
      · exact part_par he hn M N st pos kd cs hL hR hcs k4
      · obtain ⟨M', N', f1, f2, hD, fR, fT⟩ := hL.fail (f := 1) (by decide)
        refine ⟨M', N', ?_, ?_, fR.E, fT.G, Or.inr ⟨1, _, hD⟩⟩
        · show b_X6_readPart (fam_X6_readExpr fc).1 (fam_X6_readExpr fc).2 (x + 1) (Int32.ofNat e) M = some ((), M')
          refine Wp.eq ?_
          unfold b_X6_readPart
          exact Wp.j1 (Wp.ng (by rw [hL.kd]; exact k3) (Wp.ng (by rw [hL.kd]; exact k2) (Wp.ng (by rw [hL.kd]; exact k4) (Wp.cl f1 (Wp.ret rfl)))))
        · show b_X11_readPart (fam_X11_readExpression (fm + 6)).1 (fam_X11_readExpression (fm + 6)).2.1 (fam_X11_readExpression (fm + 6)).2.2.1 (fam_X11_readExpression (fm + 6)).2.2.2.1 (fam_X11_readExpression (fm + 6)).2.2.2.2.1 (fam_X11_readExpression (fm + 6)).2.2.2.2.2 (x + 95) (Int32.ofNat e) N = some ((), N')
          have hm := hL.mark (c := 40) (by decide)
          rw [if_neg k4] at hm
          have hmk : f_X11_mark (x + 95) 40 N = some ((), N') := by
            refine Wp.eq ?_
            unfold f_X11_mark
            exact Wp.j1 (Wp.ps hL.2.2.2.1 (Wp.cl hm (Wp.ps rfl (Wp.cl f2 (Wp.j1 (Wp.ng hD.n19 (Wp.ret rfl)))))))
          refine Wp.eq ?_
          unfold b_X11_readPart
          refine Wp.ps hL.2.2.2.1 (Wp.ng ?_ (Wp.ng ?_ (Wp.cl hmk (Wp.cl (dExp (fm := fm + 5) hD.n19) (Wp.cl (mark0 hD.n19) (Wp.ret rfl))))))
          · rw [hL.md]; exact fun q => k3 (md_is.1.mp q)
          · rw [hL.md]; exact fun q => k2 (md_is.2.1.mp q)
