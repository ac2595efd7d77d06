/-! The reader: whole expressions -/
theorem PEx.cg {x sp i b len : Nat} {tp : Nat → Int32} {C C' Md Md' : Mem → Option (Unit × Mem)} (h : PEx x sp i tp len b C Md) (e1 : ∀ M, C' M = C M) (e2 : ∀ N, Md' N = Md N) : PEx x sp i tp len b C' Md' := by
  intro M N st pos kd cs hL hR hc
  obtain ⟨M', N', a, b, c⟩ := h M N st pos kd cs hL hR hc
  exact ⟨M', N', (e1 M).trans a, (e2 N).trans b, c⟩
theorem ex5 {x fc : Nat} {e : Int32} {M : Mem} : f_X6_readExpr (fc + 1) (x + 1) (Int32.ofNat 5) e M = f_X6_readPart fc (x + 1) e M := by
  show b_X6_readExpr (fam_X6_readExpr fc).1 (fam_X6_readExpr fc).2 (x + 1) (Int32.ofNat 5) e M = _
  unfold b_X6_readExpr
  rw [if_neg (show ¬ Int32.ofNat 5 < 5 by decide)]
  show bd (f_X6_readPart fc (x + 1) e M) (fun _ M30 => some ((), M30)) = f_X6_readPart fc (x + 1) e M
  cases h : f_X6_readPart fc (x + 1) e M with
  | none => rfl
  | some q => rfl
theorem ex_all {x sp i len : Nat} {tp : Nat → Int32} : ∀ (g e : Nat), e + g = 5 → ∀ fc fm, PEx x sp i tp len (5 * e) (f_X6_readExpr (fc + 7 * (6 - e)) (x + 1) (Int32.ofNat 0) (Int32.ofNat e)) (f_X11_readExpression (fm + 6 + 6 * (6 - e)) (x + 95) (Int32.ofNat e)) := by
  have step : ∀ e, e ≤ 5 → ∀ fc fm, (e + 1 < 6 → PEx x sp i tp len (5 * (e + 1)) (f_X6_readExpr fc (x + 1) (Int32.ofNat 0) (Int32.ofNat (e + 1))) (f_X11_readExpression (fm + 6) (x + 95) (Int32.ofNat (e + 1)))) → PEx x sp i tp len (5 * e) (f_X6_readExpr (fc + 7) (x + 1) (Int32.ofNat 0) (Int32.ofNat e)) (f_X11_readExpression (fm + 12) (x + 95) (Int32.ofNat e)) := by
    intro e he fc fm hn
    have p5 := part_all (fm := fm) (fc := fc) he hn
    have p5' : PEx x sp i tp len (5 * e + 4 + 1) (f_X6_readExpr (fc + 2) (x + 1) (Int32.ofNat (4 + 1)) (Int32.ofNat e)) (f_X11_readPart (fm + 7) (x + 95) (Int32.ofNat e)) := p5.cg (fun M => ex5) (fun N => rfl)
    have p4 := (lvl_bin (l := 4) (by decide) p5' (fun M N st pos kd => op_prod (tp := tp) (cb := f_X11_readPart (fm + 7)) M N st pos kd len) (fun N h => dProdL h)).cg (C' := f_X6_readExpr (fc + 3) (x + 1) (Int32.ofNat 4) (Int32.ofNat e)) (Md' := f_X11_readProduct (fm + 8) (x + 95) (Int32.ofNat e)) (fun M => ex_lt (by decide) (by decide)) (fun N => rfl)
    have p3 := (lvl_bin (l := 3) (b := 5 * e + 3) (by decide) p4 (fun M N st pos kd => op_sum (tp := tp) (cb := f_X11_readProduct (fm + 8)) M N st pos kd len) (fun N h => dSumL h)).cg (C' := f_X6_readExpr (fc + 4) (x + 1) (Int32.ofNat 3) (Int32.ofNat e)) (Md' := f_X11_readSum (fm + 9) (x + 95) (Int32.ofNat e)) (fun M => ex_lt (by decide) (by decide)) (fun N => rfl)
    have p2 := lvl_not (b := 5 * e + 2) (fc := fc + 4) (fs := fm + 6) (e := Int32.ofNat e) (e' := Int32.ofNat e) p3 (fun f p M N h => h.ex (l := 3) (m := 2) (fc := fc) rfl)
    have p1 := (lvl_bin (l := 1) (b := 5 * e + 1) (by decide) p2 (fun M N st pos kd => op_and (tp := tp) (cb := f_X11_readNot (fm + 10)) M N st pos kd len) (fun N h => dAndL h)).cg (C' := f_X6_readExpr (fc + 6) (x + 1) (Int32.ofNat 1) (Int32.ofNat e)) (Md' := f_X11_readAnd (fm + 11) (x + 95) (Int32.ofNat e)) (fun M => ex_lt (by decide) (by decide)) (fun N => rfl)
    have p0 := lvl_bin (l := 0) (b := 5 * e) (by decide) p1 (fun M N st pos kd => op_or (tp := tp) (cb := f_X11_readAnd (fm + 11)) M N st pos kd len) (fun N h => dExpL h)
    intro M N st pos kd cs hL hR hc
    have hk := hL.kd
    by_cases hok : okK kd
    · obtain ⟨M', N', a, b, c⟩ := p0 M N st pos kd cs hL hR hc
      refine ⟨M', N', (ex_lt (by decide) (by decide)).trans a, Wp.eq (exp_go hL hok ?_ ⟨_, b, rfl⟩), c⟩
      intro q
      have := congrArg Int32.toInt q
      rw [ti_nat (by omega)] at this
      have e6 : (6 : Int32).toInt = 6 := rfl
      omega
    · obtain ⟨M', N', f1, f2, hD, fR, fT⟩ := hL.fail (f := 1) (by decide)
      refine ⟨M', N', exBad (fc := fc) (by rw [hk]; exact fun q => hok (Or.inr (Or.inl q))) (by rw [hk]; exact fun q => hok (Or.inl q)) (by rw [hk]; exact fun q => hok (Or.inr (Or.inr q))) f1 hD.2.2.2.1 5 0 rfl, exp_bad (fm := fm + 6) hL hok f2 hD.n19, fR.E, fT.G, Or.inr ⟨1, _, hD⟩⟩
  intro g
  induction g with
  | zero =>
    intro e he fc fm
    obtain rfl : e = 5 := by omega
    exact step 5 (by omega) fc fm (fun h => absurd h (by decide))
  | succ g ih =>
    intro e he fc fm
    have h1 := ih (e + 1) (by omega) fc fm
    have e1 : fc + 7 * (6 - e) = fc + 7 * (6 - (e + 1)) + 7 := by omega
    have e2 : fm + 6 + 6 * (6 - e) = fm + 6 * (6 - (e + 1)) + 12 := by omega
    have e3 : fm + 6 + 6 * (6 - (e + 1)) = fm + 6 * (6 - (e + 1)) + 6 := by omega
    rw [e1, e2]
    rw [e3] at h1
    exact step e (by omega) _ _ (fun _ => h1)
/-- a rule's expression, read by both -/
theorem ex_rule {x sp i len : Nat} {tp : Nat → Int32} : PEx x sp i tp len 0 (f_X6_readExpr 80 (x + 1) 0 0) (f_X11_readExpression 80 (x + 95) 0) := ex_all (x := x) (sp := sp) (i := i) (len := len) (tp := tp) 5 0 rfl 38 38
