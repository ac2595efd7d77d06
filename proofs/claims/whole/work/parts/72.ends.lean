/-! The reader: a fault behind it, both only end -/
theorem dPart {t fm : Nat} {e : Int32} {N : Mem} (h : ¬ N.1 t 19 = 0) : f_X11_readPart (fm + 1) t e N = some ((), N) := by
  show b_X11_readPart (fam_X11_readExpression fm).1 (fam_X11_readExpression fm).2.1 (fam_X11_readExpression fm).2.2.1 (fam_X11_readExpression fm).2.2.2.1 (fam_X11_readExpression fm).2.2.2.2.1 (fam_X11_readExpression fm).2.2.2.2.2 t e N = some ((), N)
  unfold b_X11_readPart
  rw [if_neg h]
theorem dProdL {t : Nat} {e : Int32} {N : Mem} {cb : Nat → Int32 → Mem → Option (Unit × Mem)} (h : ¬ N.1 t 19 = 0) : l_X11_readProduct_5 t e cb N = some (.inr ((), N)) := by
  refine Wp.eq ?_
  unfold l_X11_readProduct_5
  exact Wp.cl (isMarked0 (Or.inl h)) (Wp.j1 (Wp.ps rfl (Wp.cl (isMarked0 (Or.inl h)) (Wp.ps rfl (Wp.ret rfl)))))
theorem dSumL {t : Nat} {e : Int32} {N : Mem} {cb : Nat → Int32 → Mem → Option (Unit × Mem)} (h : ¬ N.1 t 19 = 0) : l_X11_readSum_5 t e cb N = some (.inr ((), N)) := by
  refine Wp.eq ?_
  unfold l_X11_readSum_5
  exact Wp.cl (isMarked0 (Or.inl h)) (Wp.j1 (Wp.ps rfl (Wp.cl (isMarked0 (Or.inl h)) (Wp.ps rfl (Wp.ret rfl)))))
theorem dAndL {t : Nat} {e : Int32} {N : Mem} {cb : Nat → Int32 → Mem → Option (Unit × Mem)} (h : ¬ N.1 t 19 = 0) : l_X11_readAnd_5 t e cb N = some (.inr ((), N)) := by
  refine Wp.eq ?_
  unfold l_X11_readAnd_5
  exact Wp.cl (is0 (Or.inl h)) (Wp.ps rfl (Wp.ret rfl))
theorem dExpL {t : Nat} {e : Int32} {N : Mem} {cb : Nat → Int32 → Mem → Option (Unit × Mem)} (h : ¬ N.1 t 19 = 0) : l_X11_readExpression_67 t e cb N = some (.inr ((), N)) := by
  refine Wp.eq ?_
  unfold l_X11_readExpression_67
  exact Wp.cl (is0 (Or.inl h)) (Wp.ps rfl (Wp.ret rfl))
theorem lop1_FU {α τ : Type} {b : α → Option (α ⊕ τ)} {x : α} {t : τ} (h : b x = some (.inr t)) : lop1 FU b x = some t := by
  show lop1 (999999 + 1) b x = some t
  exact lop1_inr h
theorem lop2_FU {α β τ : Type} {b : α → β → Option ((α × β) ⊕ τ)} {x : α} {y : β} {t : τ} (h : b x y = some (.inr t)) : lop2 FU b x y = some t := by
  show lop2 (999999 + 1) b x y = some t
  exact lop2_inr h
theorem dProd {t fm : Nat} {e : Int32} {N : Mem} (h : ¬ N.1 t 19 = 0) : f_X11_readProduct (fm + 2) t e N = some ((), N) := by
  show b_X11_readProduct (fam_X11_readExpression (fm + 1)).1 (fam_X11_readExpression (fm + 1)).2.1 (fam_X11_readExpression (fm + 1)).2.2.1 (fam_X11_readExpression (fm + 1)).2.2.2.1 (fam_X11_readExpression (fm + 1)).2.2.2.2.1 (fam_X11_readExpression (fm + 1)).2.2.2.2.2 t e N = some ((), N)
  refine Wp.eq ?_
  unfold b_X11_readProduct
  exact Wp.cl (dPart h) ⟨_, lop1_FU (dProdL h), rfl⟩
theorem dSum {t fm : Nat} {e : Int32} {N : Mem} (h : ¬ N.1 t 19 = 0) : f_X11_readSum (fm + 3) t e N = some ((), N) := by
  show b_X11_readSum (fam_X11_readExpression (fm + 2)).1 (fam_X11_readExpression (fm + 2)).2.1 (fam_X11_readExpression (fm + 2)).2.2.1 (fam_X11_readExpression (fm + 2)).2.2.2.1 (fam_X11_readExpression (fm + 2)).2.2.2.2.1 (fam_X11_readExpression (fm + 2)).2.2.2.2.2 t e N = some ((), N)
  refine Wp.eq ?_
  unfold b_X11_readSum
  exact Wp.cl (dProd h) ⟨_, lop1_FU (dSumL h), rfl⟩
theorem lay_loop {t n : Nat} {N : Mem} (h : ¬ N.1 t 19 = 0) (hn : n < 100) : ∀ (m k fu : Nat), k + m = n → m < fu → lop2 fu (l_X11_readNot_95 t (Int32.ofNat n)) (Int32.ofNat k) N = some (.inr ((), N)) := by
  intro m
  induction m with
  | zero =>
    intro k fu hk hf
    obtain ⟨fu, rfl⟩ : ∃ q, fu = q + 1 := ⟨fu - 1, by omega⟩
    refine lop2_inr (Wp.eq ?_)
    unfold l_X11_readNot_95
    exact Wp.ps ((i_le (by omega) (by omega)).mpr (by omega)) (Wp.ret rfl)
  | succ m ih =>
    intro k fu hk hf
    obtain ⟨fu, rfl⟩ : ∃ q, fu = q + 1 := ⟨fu - 1, by omega⟩
    have b1 : l_X11_readNot_95 t (Int32.ofNat n) (Int32.ofNat k) N = some (.inl (Int32.ofNat (k + 1), N)) := by
      refine Wp.eq ?_
      unfold l_X11_readNot_95
      refine Wp.ng (i64_lt (by omega) (by omega)) (Wp.cl (lay0 h) (Wp.nam ?_))
      rw [i_ad1]
      exact Wp.ret rfl
    exact (lop2_inl b1).trans (ih (k + 1) fu (by omega) (by omega))
/-- behind the nots, in a fault -/
theorem dNotL {t fm n : Nat} {e : Int32} {N : Mem} (h : ¬ N.1 t 19 = 0) (hn : n < 100) : l_X11_readNot_2 t e (f_X11_readSum (fm + 3)) (Int32.ofNat n) N = some (.inr ((), N)) := by
  refine Wp.eq ?_
  unfold l_X11_readNot_2
  refine Wp.cl (is0 (Or.inl h)) (Wp.ps rfl (Wp.cl (dSum h) (Wp.cl (isMarked0 (Or.inl h)) (Wp.j1 (Wp.j1 (Wp.ps rfl (Wp.cl (isMarked0 (Or.inl h)) (Wp.ps rfl ?_))))))))
  exact ⟨_, lay_loop h hn n 0 FU (by omega) (by unfold FU; omega), rfl⟩
theorem dNot {t fm : Nat} {e : Int32} {N : Mem} (h : ¬ N.1 t 19 = 0) : f_X11_readNot (fm + 4) t e N = some ((), N) := by
  show b_X11_readNot (fam_X11_readExpression (fm + 3)).1 (fam_X11_readExpression (fm + 3)).2.1 (fam_X11_readExpression (fm + 3)).2.2.1 (fam_X11_readExpression (fm + 3)).2.2.2.1 (fam_X11_readExpression (fm + 3)).2.2.2.2.1 (fam_X11_readExpression (fm + 3)).2.2.2.2.2 t e N = some ((), N)
  refine Wp.eq ?_
  unfold b_X11_readNot
  exact ⟨_, lop2_FU (dNotL (n := 0) (fm := fm) h (by decide)), rfl⟩
theorem dAnd {t fm : Nat} {e : Int32} {N : Mem} (h : ¬ N.1 t 19 = 0) : f_X11_readAnd (fm + 5) t e N = some ((), N) := by
  show b_X11_readAnd (fam_X11_readExpression (fm + 4)).1 (fam_X11_readExpression (fm + 4)).2.1 (fam_X11_readExpression (fm + 4)).2.2.1 (fam_X11_readExpression (fm + 4)).2.2.2.1 (fam_X11_readExpression (fm + 4)).2.2.2.2.1 (fam_X11_readExpression (fm + 4)).2.2.2.2.2 t e N = some ((), N)
  refine Wp.eq ?_
  unfold b_X11_readAnd
  exact Wp.cl (dNot h) ⟨_, lop1_FU (dAndL h), rfl⟩
theorem dExp {t fm : Nat} {e : Int32} {N : Mem} (h : ¬ N.1 t 19 = 0) : f_X11_readExpression (fm + 1) t e N = some ((), N) := by
  show b_X11_readExpression (fam_X11_readExpression fm).1 (fam_X11_readExpression fm).2.1 (fam_X11_readExpression fm).2.2.1 (fam_X11_readExpression fm).2.2.2.1 (fam_X11_readExpression fm).2.2.2.2.1 (fam_X11_readExpression fm).2.2.2.2.2 t e N = some ((), N)
  unfold b_X11_readExpression
  rw [if_neg h]
/-- no operator stands there -/
theorem op0 {x l : Nat} {M : Mem} (hl : l < 5) (h2 : ¬ M.1 (x + 1) 5 = 2) (hm : ¬ isMk (M.1 (x + 1) 5)) : f_X6_operatorHere (x + 1) (Int32.ofNat l) M = some (0, M) := by
  have n60 : ¬ M.1 (x + 1) 5 = 60 := fun e => hm (by rw [e]; decide)
  have n61 : ¬ M.1 (x + 1) 5 = 61 := fun e => hm (by rw [e]; decide)
  have n43 : ¬ M.1 (x + 1) 5 = 43 := fun e => hm (by rw [e]; decide)
  have n45 : ¬ M.1 (x + 1) 5 = 45 := fun e => hm (by rw [e]; decide)
  have n42 : ¬ M.1 (x + 1) 5 = 42 := fun e => hm (by rw [e]; decide)
  have n47 : ¬ M.1 (x + 1) 5 = 47 := fun e => hm (by rw [e]; decide)
  refine Wp.eq ?_
  unfold f_X6_operatorHere
  have hl' : l = 0 ∨ l = 1 ∨ l = 2 ∨ l = 3 ∨ l = 4 := by omega
  rcases hl' with e | e | e | e | e <;> subst e
  · exact Wp.ng (by decide) (Wp.ps rfl (Wp.cl (isWord0 h2) (Wp.j1 (Wp.ps rfl (Wp.ret rfl)))))
  · exact Wp.ng (by decide) (Wp.ng (by decide) (Wp.ps rfl (Wp.cl (isWord0 h2) (Wp.j1 (Wp.ps rfl (Wp.ret rfl))))))
  · exact Wp.ng (by decide) (Wp.ng (by decide) (Wp.ng (by decide) (Wp.ps rfl (Wp.j1 (Wp.ng n60 (Wp.ng n61 (Wp.ret rfl)))))))
  · exact Wp.ng (by decide) (Wp.ng (by decide) (Wp.ng (by decide) (Wp.ng (by decide) (Wp.ps rfl (Wp.j1 (Wp.ng n43 (Wp.ng n45 (Wp.ret rfl))))))))
  · exact Wp.ng (by decide) (Wp.ng (by decide) (Wp.ng (by decide) (Wp.ng (by decide) (Wp.ng (by decide) (Wp.ps rfl (Wp.j1 (Wp.ng n42 (Wp.ng n47 (Wp.ret rfl)))))))))
theorem nots0 {x : Nat} {M : Mem} (h2 : ¬ M.1 (x + 1) 5 = 2) : f_X6_readNots (x + 1) M = some (0, M) := by
  unfold f_X6_readNots
  refine lop2_FU (Wp.eq ?_)
  unfold l_X6_readNots_2
  exact Wp.j1 (Wp.ng (by decide) (Wp.cl (isWord0 h2) (Wp.ps rfl (Wp.cl (isWord0 h2) (Wp.j1 (Wp.ps rfl (Wp.ret rfl)))))))
theorem exEnd {x l : Nat} {e z5 : Int32} {M : Mem} {cb : Nat → Int32 → Int32 → Mem → Option (Unit × Mem)} (hl : l < 5) (h5 : M.1 (x + 1) 5 = -1) : lop2 FU (l_X6_readExpr_50 (x + 1) (Int32.ofNat l) e 0 z5 cb) (0 : Int32) M = some ((), M) := by
  refine lop2_FU (Wp.eq ?_)
  unfold l_X6_readExpr_50
  have fin : Wp (lop2 FU (l_X6_readExpr_102 (x + 1) 0) (0 : Int32) M) (fun q => q = (.inr ((), M) : (Int32 × Mem) ⊕ (Unit × Mem))) := by
    have : lop2 FU (l_X6_readExpr_102 (x + 1) 0) (0 : Int32) M = some (.inr ((), M)) := by
      refine lop2_FU (Wp.eq ?_)
      unfold l_X6_readExpr_102
      exact Wp.ps (by decide) (Wp.ret rfl)
    exact ⟨_, this, rfl⟩
  refine Wp.j1 (Wp.br (fun _ => fin) (fun _ => Wp.cl (op0 hl (by rw [h5]; decide) (by rw [h5]; decide)) (Wp.ps rfl fin)))
/-- nothing that an expression begins with: the class finds it at the bottom -/
theorem exBad {x fc : Nat} {e : Int32} {M M' : Mem} (h2 : ¬ M.1 (x + 1) 5 = 2) (h3 : ¬ M.1 (x + 1) 5 = 3) (h40 : ¬ M.1 (x + 1) 5 = 40) (hf : f_X6_fail (x + 1) 1 M = some ((), M')) (h5 : M'.1 (x + 1) 5 = -1) : ∀ m l, l + m = 5 → f_X6_readExpr (fc + 2 + m) (x + 1) (Int32.ofNat l) e M = some ((), M') := by
  intro m
  induction m with
  | zero =>
    intro l hl
    obtain rfl : l = 5 := by omega
    show b_X6_readExpr (fam_X6_readExpr (fc + 1)).1 (fam_X6_readExpr (fc + 1)).2 (x + 1) (Int32.ofNat 5) e M = some ((), M')
    refine Wp.eq ?_
    unfold b_X6_readExpr
    have hp : f_X6_readPart (fc + 1) (x + 1) e M = some ((), M') := by
      show b_X6_readPart (fam_X6_readExpr fc).1 (fam_X6_readExpr fc).2 (x + 1) e M = some ((), M')
      refine Wp.eq ?_
      unfold b_X6_readPart
      exact Wp.j1 (Wp.ng h3 (Wp.ng h2 (Wp.ng h40 (Wp.cl hf (Wp.ret rfl)))))
    exact Wp.ng (by decide) (Wp.cl hp (Wp.ret rfl))
  | succ m ih =>
    intro l hl
    have hi := ih (l + 1) (by omega)
    have e1 : Int32.ofNat l + 1 = Int32.ofNat (l + 1) := i_ad1
    have l5 : Int32.ofNat l < 5 := (i_lt (a := l) (b := 5) (by omega) (by omega)).mpr (by omega)
    show b_X6_readExpr (fam_X6_readExpr (fc + 2 + m)).1 (fam_X6_readExpr (fc + 2 + m)).2 (x + 1) (Int32.ofNat l) e M = some ((), M')
    refine Wp.eq ?_
    unfold b_X6_readExpr
    refine Wp.ps l5 (Wp.j2 ?_)
    rw [e1]
    have go : ∀ z5, Wp (lop2 FU (l_X6_readExpr_50 (x + 1) (Int32.ofNat l) e 0 z5 (fam_X6_readExpr (fc + 2 + m)).1) (0 : Int32) M') (fun q => q = ((), M')) := fun z5 => ⟨_, exEnd (by omega) h5, rfl⟩
    refine Wp.br (fun g => Wp.cl (nots0 h2) (Wp.cl hi (Wp.j1 (Wp.ps g (go _))))) (fun g => Wp.cl hi (Wp.j1 (Wp.ng g (go _))))
theorem DD.ex {x l m fc : Nat} {e f p : Int32} {M N : Mem} (h : DD x f p M N) (hl : l + m = 5) : f_X6_readExpr (fc + 2 + m) (x + 1) (Int32.ofNat l) e M = some ((), M) := exBad (by rw [h.2.2.2.1]; decide) (by rw [h.2.2.2.1]; decide) (by rw [h.2.2.2.1]; decide) h.fail h.2.2.2.1 m l hl
