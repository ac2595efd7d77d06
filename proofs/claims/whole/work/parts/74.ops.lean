/-! The reader: or, and, plus, minus, times, over -/
theorem LV.kd {x : Nat} {tp : Nat → Int32} {len st pos : Nat} {kd : Int32} {M N : Mem} (h : LV x tp len st pos kd M N) : M.1 (x + 1) 5 = kd := h.1.2.2.2
theorem op_word {x l s : Nat} {u um : Int32} {tp : Nat → Int32} {e : Int32} {cb : Nat → Int32 → Mem → Option (Unit × Mem)} {MB : Mem → Option (Mem ⊕ (Unit × Mem))} (hs : s < 16) (hu : bin u) (hum : trS u = um) (hc : ∀ M v, f_X6_isWord (x + 1) (s + 16) M = some (v, M) → f_X6_operatorHere (x + 1) (Int32.ofNat l) M = some (if v = 0 then 0 else u, M)) (hm : ∀ N, MB N = bd (f_X11_is (x + 95) s N) (fun u7 M8 => if u7 = 0 then (some (.inr ((), M8))) else (bd (f_X11_stepOn (x + 95) M8) (fun _ M10 => bd (cb (x + 95) e M10) (fun _ M12 => bd (f_X11_lay (x + 95) um M12) (fun _ M14 => some (.inl M14))))))) : ∀ M N st pos kd len, LV x tp len st pos kd M N → ∃ u, f_X6_operatorHere (x + 1) (Int32.ofNat l) M = some (u, M) ∧ (u = 0 ∨ (bin u ∧ ¬ kd = 0)) ∧ (u = 0 → MB N = some (.inr ((), N))) ∧ (¬ u = 0 → ∀ N2 N3 N4, f_X11_stepOn (x + 95) N = some ((), N2) → cb (x + 95) e N2 = some ((), N3) → f_X11_lay (x + 95) (trS u) N3 = some ((), N4) → MB N = some (.inl N4)) := by
  intro M N st pos kd len hL
  obtain ⟨v, w1, w2, w3⟩ := hL.word hs
  rcases w3 with ⟨h1, h2, _⟩ | ⟨h1, _⟩ <;> subst h1
  · refine ⟨u, (hc M 1 w1).trans ?_, Or.inr ⟨hu, by rw [h2]; decide⟩, fun e => absurd e hu.2.2, fun _ N2 N3 N4 a b c => ?_⟩
    · rw [if_neg (show ¬ (1 : Int32) = 0 by decide)]
    · rw [hm, bd_eq w2, if_neg (show ¬ (1 : Int32) = 0 by decide), bd_eq a, bd_eq b, ← hum, bd_eq c]
  · refine ⟨0, (hc M 0 w1).trans ?_, Or.inl rfl, fun _ => ?_, fun e => absurd rfl e⟩
    · rw [if_pos rfl]
    · rw [hm, bd_eq w2, if_pos rfl]
theorem op_or {x : Nat} {tp : Nat → Int32} {e : Int32} {cb : Nat → Int32 → Mem → Option (Unit × Mem)} : ∀ M N st pos kd len, LV x tp len st pos kd M N → ∃ u, f_X6_operatorHere (x + 1) (Int32.ofNat 0) M = some (u, M) ∧ (u = 0 ∨ (bin u ∧ ¬ kd = 0)) ∧ (u = 0 → l_X11_readExpression_67 (x + 95) e cb N = some (.inr ((), N))) ∧ (¬ u = 0 → ∀ N2 N3 N4, f_X11_stepOn (x + 95) N = some ((), N2) → cb (x + 95) e N2 = some ((), N3) → f_X11_lay (x + 95) (trS u) N3 = some ((), N4) → l_X11_readExpression_67 (x + 95) e cb N = some (.inl N4)) := by
  refine op_word (s := 13) (u := -6) (um := -27) (by decide) ⟨by decide, by decide, by decide⟩ (by decide) (fun M v h => Wp.eq ?_) (fun N => rfl)
  unfold f_X6_operatorHere
  refine Wp.ng (by decide) (Wp.ps rfl (Wp.cl h (Wp.j1 (Wp.br (fun g => Wp.ret ?_) (fun g => Wp.ret ?_)))))
  · rw [if_pos g]
  · rw [if_neg g]
theorem op_and {x : Nat} {tp : Nat → Int32} {e : Int32} {cb : Nat → Int32 → Mem → Option (Unit × Mem)} : ∀ M N st pos kd len, LV x tp len st pos kd M N → ∃ u, f_X6_operatorHere (x + 1) (Int32.ofNat 1) M = some (u, M) ∧ (u = 0 ∨ (bin u ∧ ¬ kd = 0)) ∧ (u = 0 → l_X11_readAnd_5 (x + 95) e cb N = some (.inr ((), N))) ∧ (¬ u = 0 → ∀ N2 N3 N4, f_X11_stepOn (x + 95) N = some ((), N2) → cb (x + 95) e N2 = some ((), N3) → f_X11_lay (x + 95) (trS u) N3 = some ((), N4) → l_X11_readAnd_5 (x + 95) e cb N = some (.inl N4)) := by
  refine op_word (s := 14) (u := -7) (um := -26) (by decide) ⟨by decide, by decide, by decide⟩ (by decide) (fun M v h => Wp.eq ?_) (fun N => rfl)
  unfold f_X6_operatorHere
  refine Wp.ng (by decide) (Wp.ng (by decide) (Wp.ps rfl (Wp.cl h (Wp.j1 (Wp.br (fun g => Wp.ret ?_) (fun g => Wp.ret ?_))))))
  · rw [if_pos g]
  · rw [if_neg g]
/-- one of two marks -/
def op2 (kd a b u v : Int32) : Int32 := if kd = a then u else if kd = b then v else 0
theorem op_mark {x l : Nat} {a b u v um vm : Int32} {tp : Nat → Int32} {e : Int32} {cb : Nat → Int32 → Mem → Option (Unit × Mem)} {MB : Mem → Option (Mem ⊕ (Unit × Mem))} (ha : isMk a) (hb : isMk b) (hab : ¬ b = a) (hu : bin u) (hv : bin v) (hum : trS u = um) (hvm : trS v = vm) (hc : ∀ M, f_X6_operatorHere (x + 1) (Int32.ofNat l) M = some (op2 (M.1 (x + 1) 5) a b u v, M))
    (hm : ∀ N, MB N = bd (f_X11_isMarked (x + 95) a N) (fun u4 M5 => jn1 (fun M6 => bd (f_X11_isMarked (x + 95) a M6) (fun u7 M8 => jn1 (fun z9 => bd (f_X11_stepOn (x + 95) M8) (fun _ M11 => bd (cb (x + 95) e M11) (fun _ M13 => bd (f_X11_lay (x + 95) z9 M13) (fun _ M15 => some (.inl M15))))) (fun J39 => if u7 = 0 then (J39 vm) else (J39 um)))) (fun J23 => if u4 = 0 then (bd (f_X11_isMarked (x + 95) b M5) (fun u16 M17 => if u16 = 0 then (some (.inr ((), M17))) else (J23 M17))) else (J23 M5)))) : ∀ M N st pos kd len, LV x tp len st pos kd M N → ∃ u, f_X6_operatorHere (x + 1) (Int32.ofNat l) M = some (u, M) ∧ (u = 0 ∨ (bin u ∧ ¬ kd = 0)) ∧ (u = 0 → MB N = some (.inr ((), N))) ∧ (¬ u = 0 → ∀ N2 N3 N4, f_X11_stepOn (x + 95) N = some ((), N2) → cb (x + 95) e N2 = some ((), N3) → f_X11_lay (x + 95) (trS u) N3 = some ((), N4) → MB N = some (.inl N4)) := by
  intro M N st pos kd len hL
  have m1 := hL.mark ha
  have m2 := hL.mark hb
  have hc' := hc M
  rw [hL.kd] at hc'
  unfold op2 at hc'
  have z0 : ∀ c, isMk c → ¬ c = 0 := fun c h e => by rw [e] at h; exact absurd h (by decide)
  by_cases g1 : kd = a
  · rw [if_pos g1] at hc' m1
    refine ⟨u, hc', Or.inr ⟨hu, by rw [g1]; exact z0 a ha⟩, fun e => absurd e hu.2.2, fun _ N2 N3 N4 p q r => ?_⟩
    rw [hm]
    refine Wp.eq ?_
    rw [hum] at r
    exact Wp.cl m1 (Wp.j1 (Wp.ng (by decide) (Wp.cl m1 (Wp.j1 (Wp.ng (by decide) (Wp.cl p (Wp.cl q (Wp.cl r (Wp.ret rfl)))))))))
  · by_cases g2 : kd = b
    · rw [if_neg g1, if_pos g2] at hc'
      rw [if_neg g1] at m1
      rw [if_pos g2] at m2
      refine ⟨v, hc', Or.inr ⟨hv, by rw [g2]; exact z0 b hb⟩, fun e => absurd e hv.2.2, fun _ N2 N3 N4 p q r => ?_⟩
      rw [hm]
      refine Wp.eq ?_
      rw [hvm] at r
      exact Wp.cl m1 (Wp.j1 (Wp.ps rfl (Wp.cl m2 (Wp.ng (by decide) (Wp.cl m1 (Wp.j1 (Wp.ps rfl (Wp.cl p (Wp.cl q (Wp.cl r (Wp.ret rfl)))))))))))
    · rw [if_neg g1, if_neg g2] at hc'
      rw [if_neg g1] at m1
      rw [if_neg g2] at m2
      refine ⟨0, hc', Or.inl rfl, fun _ => ?_, fun e => absurd rfl e⟩
      rw [hm]
      refine Wp.eq ?_
      exact Wp.cl m1 (Wp.j1 (Wp.ps rfl (Wp.cl m2 (Wp.ps rfl (Wp.ret rfl)))))
theorem op_sum {x : Nat} {tp : Nat → Int32} {e : Int32} {cb : Nat → Int32 → Mem → Option (Unit × Mem)} : ∀ M N st pos kd len, LV x tp len st pos kd M N → ∃ u, f_X6_operatorHere (x + 1) (Int32.ofNat 3) M = some (u, M) ∧ (u = 0 ∨ (bin u ∧ ¬ kd = 0)) ∧ (u = 0 → l_X11_readSum_5 (x + 95) e cb N = some (.inr ((), N))) ∧ (¬ u = 0 → ∀ N2 N3 N4, f_X11_stepOn (x + 95) N = some ((), N2) → cb (x + 95) e N2 = some ((), N3) → f_X11_lay (x + 95) (trS u) N3 = some ((), N4) → l_X11_readSum_5 (x + 95) e cb N = some (.inl N4)) := by
  refine op_mark (a := 43) (b := 45) (u := -10) (v := -11) (um := -20) (vm := -21) (by decide) (by decide) (by decide) ⟨by decide, by decide, by decide⟩ ⟨by decide, by decide, by decide⟩ (by decide) (by decide) (fun M => Wp.eq ?_) (fun N => rfl)
  unfold f_X6_operatorHere op2
  refine Wp.ng (by decide) (Wp.ng (by decide) (Wp.ng (by decide) (Wp.ng (by decide) (Wp.ps rfl (Wp.j1 (Wp.br (fun g => Wp.ret ?_) (fun g => Wp.br (fun g2 => Wp.ret ?_) (fun g2 => Wp.ret ?_))))))))
  · rw [if_pos g]
  · rw [if_neg g, if_pos g2]
  · rw [if_neg g, if_neg g2]
theorem op_prod {x : Nat} {tp : Nat → Int32} {e : Int32} {cb : Nat → Int32 → Mem → Option (Unit × Mem)} : ∀ M N st pos kd len, LV x tp len st pos kd M N → ∃ u, f_X6_operatorHere (x + 1) (Int32.ofNat 4) M = some (u, M) ∧ (u = 0 ∨ (bin u ∧ ¬ kd = 0)) ∧ (u = 0 → l_X11_readProduct_5 (x + 95) e cb N = some (.inr ((), N))) ∧ (¬ u = 0 → ∀ N2 N3 N4, f_X11_stepOn (x + 95) N = some ((), N2) → cb (x + 95) e N2 = some ((), N3) → f_X11_lay (x + 95) (trS u) N3 = some ((), N4) → l_X11_readProduct_5 (x + 95) e cb N = some (.inl N4)) := by
  refine op_mark (a := 42) (b := 47) (u := -12) (v := -13) (um := -22) (vm := -23) (by decide) (by decide) (by decide) ⟨by decide, by decide, by decide⟩ ⟨by decide, by decide, by decide⟩ (by decide) (by decide) (fun M => Wp.eq ?_) (fun N => rfl)
  unfold f_X6_operatorHere op2
  refine Wp.ng (by decide) (Wp.ng (by decide) (Wp.ng (by decide) (Wp.ng (by decide) (Wp.ng (by decide) (Wp.ps rfl (Wp.j1 (Wp.br (fun g => Wp.ret ?_) (fun g => Wp.br (fun g2 => Wp.ret ?_) (fun g2 => Wp.ret ?_)))))))))
  · rw [if_pos g]
  · rw [if_neg g, if_pos g2]
  · rw [if_neg g, if_neg g2]
/-- the class's expression of a level below 5, by what it does -/
theorem ex_lt {x l fc : Nat} {e : Int32} {M : Mem} (hl : l < 5) (h2 : ¬ l = 2) : f_X6_readExpr (fc + 1) (x + 1) (Int32.ofNat l) e M = bd (f_X6_readExpr fc (x + 1) (Int32.ofNat (l + 1)) e M) (fun _ M4 => lop2 FU (l_X6_readExpr_50 (x + 1) (Int32.ofNat l) e 0 700 (f_X6_readExpr fc)) (0 : Int32) M4) := by
  have e1 : Int32.ofNat l + 1 = Int32.ofNat (l + 1) := i_ad1
  have l5 : Int32.ofNat l < 5 := (i_lt (a := l) (b := 5) (by omega) (by omega)).mpr (by omega)
  have n2 : ¬ Int32.ofNat l = 2 := fun q => by
    have := congrArg Int32.toInt q
    rw [ti_nat (by omega)] at this
    have e2 : (2 : Int32).toInt = 2 := rfl
    omega
  show b_X6_readExpr (fam_X6_readExpr fc).1 (fam_X6_readExpr fc).2 (x + 1) (Int32.ofNat l) e M = _
  unfold b_X6_readExpr
  rw [if_pos l5]
  unfold jn2 jn1
  dsimp only
  rw [if_neg n2, e1]
  simp only [if_neg n2]
  rfl
