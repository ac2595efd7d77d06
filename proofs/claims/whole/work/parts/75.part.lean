/-! The reader: a part of an expression -/
theorem trS_id {u : Int32} (h : -4 ≤ u.toInt) : trS u = u := by
  unfold trS
  have e : ∀ v : Int32, v.toInt < -4 → ¬ u = v := fun v hv q => by rw [q] at h; omega
  rw [if_neg (e (-5) (by decide)), if_neg (e (-6) (by decide)), if_neg (e (-7) (by decide)), if_neg (e (-8) (by decide)), if_neg (e (-9) (by decide)), if_neg (e (-10) (by decide)), if_neg (e (-11) (by decide)), if_neg (e (-12) (by decide)), if_neg (e (-13) (by decide))]
theorem dpl_one {u : Int32} {d : Nat} (h : -4 ≤ u.toInt) (hd : d < 40) : dpl [u] d = some (d + 1) := by
  unfold dpl
  have e5 : (-5 : Int32).toInt = -5 := rfl
  have h5 : (-5 : Int32) ≤ u := le_of (by rw [e5]; omega)
  have n5 : ¬ u = -5 := fun q => by rw [q, e5] at h; omega
  rw [if_pos h5, if_neg n5, if_pos hd]
  rfl
theorem which_ok {t o n : Nat} {N : Mem} {v : Nat → Int32} (hv : ∀ k, k < n → f_X11_is t (o + k) N = some (v k, N)) (hn : n < 100) : ∀ (m k fu : Nat), k + m = n → m < fu → (∀ j, j < k → v j = 0) → ∃ w, lop2 fu (l_X11_which_2 t o n) (Int32.ofNat k) N = some (w, N) ∧ ((w = -1 ∧ ∀ j, j < n → v j = 0) ∨ ∃ j, j < n ∧ w = Int32.ofNat j ∧ ¬ v j = 0 ∧ ∀ i, i < j → v i = 0) := by
  intro m
  induction m with
  | zero =>
    intro k fu hk hf h0
    obtain ⟨fu, rfl⟩ : ∃ q, fu = q + 1 := ⟨fu - 1, by omega⟩
    refine ⟨-1, lop2_inr (Wp.eq ?_), Or.inl ⟨rfl, fun j hj => h0 j (by omega)⟩⟩
    unfold l_X11_which_2
    exact Wp.ps ((i_le (by omega) (by omega)).mpr (by omega)) (Wp.ret rfl)
  | succ m ih =>
    intro k fu hk hf h0
    obtain ⟨fu, rfl⟩ : ∃ q, fu = q + 1 := ⟨fu - 1, by omega⟩
    have hlt : ¬ Int32.ofNat n ≤ Int32.ofNat k := i64_lt (by omega) (by omega)
    by_cases g : v k = 0
    · have b1 : l_X11_which_2 t o n (Int32.ofNat k) N = some (.inl (Int32.ofNat (k + 1), N)) := by
        refine Wp.eq ?_
        unfold l_X11_which_2
        refine Wp.ng hlt (Wp.gi (i_rng (by omega) (by omega)) ?_)
        rw [i_nn (by omega)]
        refine Wp.cl (hv k (by omega)) (Wp.ps g (Wp.nam ?_))
        rw [i_ad1]
        exact Wp.ret rfl
      obtain ⟨w, e, hw⟩ := ih (k + 1) fu (by omega) (by omega) (fun j hj => by
        by_cases e : j = k
        · rw [e]; exact g
        · exact h0 j (by omega))
      exact ⟨w, (lop2_inl b1).trans e, hw⟩
    · refine ⟨Int32.ofNat k, lop2_inr (Wp.eq ?_), Or.inr ⟨k, by omega, rfl, g, h0⟩⟩
      unfold l_X11_which_2
      refine Wp.ng hlt (Wp.gi (i_rng (by omega) (by omega)) ?_)
      rw [i_nn (by omega)]
      exact Wp.cl (hv k (by omega)) (Wp.ng g (Wp.ret rfl))
/-- the words of a list that stand there, asked alike by both -/
theorem LV.words {x o n : Nat} {tp : Nat → Int32} {len st pos : Nat} {kd : Int32} {M N : Mem} (h : LV x tp len st pos kd M N) (hn : o + n ≤ 16) : ∃ v : Nat → Int32, (∀ k, k < n → f_X6_isWord (x + 1) (o + k + 16) M = some (v k, M)) ∧ (∀ k, k < n → f_X11_is (x + 95) (o + k) N = some (v k, N)) ∧ (∀ k, k < n → v k = 0 ∨ v k = 1) ∧ (∀ k, k < n → v k = 1 → kd = 2) := by
  have hw : ∀ k, ∃ v, k < n → f_X6_isWord (x + 1) (o + k + 16) M = some (v, M) ∧ f_X11_is (x + 95) (o + k) N = some (v, N) ∧ (v = 0 ∨ v = 1) ∧ (v = 1 → kd = 2) := fun k => by
    by_cases hk : k < n
    · obtain ⟨v, a, b, c⟩ := h.word (s := o + k) (by omega)
      refine ⟨v, fun _ => ⟨a, b, ?_, ?_⟩⟩
      · rcases c with ⟨c, _⟩ | ⟨c, _⟩
        · exact Or.inr c
        · exact Or.inl c
      · intro e
        rcases c with ⟨_, c, _⟩ | ⟨c, _⟩
        · exact c
        · rw [c] at e; exact absurd e (by decide)
    · exact ⟨0, fun q => absurd q hk⟩
  exact ⟨fun k => (hw k).choose, fun k hk => ((hw k).choose_spec hk).1, fun k hk => ((hw k).choose_spec hk).2.1, fun k hk => ((hw k).choose_spec hk).2.2.1, fun k hk => ((hw k).choose_spec hk).2.2.2⟩
/-- the class's value, by the words asked -/
theorem rv_hit {x : Nat} {M M1 : Mem} {v : Nat → Int32} {j : Nat} (hv : ∀ k, k < 4 → f_X6_isWord (x + 1) (0 + k + 16) M = some (v k, M)) (hj : j < 4) (h0 : ∀ i, i < j → v i = 0) (h1 : ¬ v j = 0) (hg : M.2.2 2 = x + 1 + 4 ∨ M.2.2 2 = x + 1 + 7 ∨ M.2.2 2 = x + 1 + 12 ∨ M.2.2 2 = x + 1 + 15) (ha : f_X7_add (M.2.2 2) (-1 - Int32.ofNat j) M = some ((), M1)) {M2 : Mem} (hd : f_X6_advance (x + 1) M1 = some ((), M2)) : f_X6_readValue (x + 1) M = some ((), M2) := by
  refine Wp.eq ?_
  unfold f_X6_readValue
  have hj' : j = 0 ∨ j = 1 ∨ j = 2 ∨ j = 3 := by omega
  have v0 := hv 0 (by decide)
  have v1 := hv 1 (by decide)
  have v2 := hv 2 (by decide)
  have v3 := hv 3 (by decide)
  rcases hj' with e | e | e | e <;> subst e
  · exact Wp.cl v0 (Wp.j1 (Wp.ng h1 (Wp.gp hg (Wp.cl ha (Wp.cl hd (Wp.ret rfl))))))
  · exact Wp.cl v0 (Wp.j1 (Wp.ps (h0 0 (by decide)) (Wp.cl v1 (Wp.ng h1 (Wp.gp hg (Wp.cl ha (Wp.cl hd (Wp.ret rfl))))))))
  · exact Wp.cl v0 (Wp.j1 (Wp.ps (h0 0 (by decide)) (Wp.cl v1 (Wp.ps (h0 1 (by decide)) (Wp.cl v2 (Wp.ng h1 (Wp.gp hg (Wp.cl ha (Wp.cl hd (Wp.ret rfl))))))))))
  · exact Wp.cl v0 (Wp.j1 (Wp.ps (h0 0 (by decide)) (Wp.cl v1 (Wp.ps (h0 1 (by decide)) (Wp.cl v2 (Wp.ps (h0 2 (by decide)) (Wp.cl v3 (Wp.ng h1 (Wp.gp hg (Wp.cl ha (Wp.cl hd (Wp.ret rfl))))))))))))
theorem rv_none {x : Nat} {M M1 : Mem} {v : Nat → Int32} (hv : ∀ k, k < 4 → f_X6_isWord (x + 1) (0 + k + 16) M = some (v k, M)) (h0 : ∀ i, i < 4 → v i = 0) (hf : f_X6_fail (x + 1) 3 M = some ((), M1)) (hd : f_X6_advance (x + 1) M1 = some ((), M1)) : f_X6_readValue (x + 1) M = some ((), M1) := by
  refine Wp.eq ?_
  unfold f_X6_readValue
  exact Wp.cl (hv 0 (by decide)) (Wp.j1 (Wp.ps (h0 0 (by decide)) (Wp.cl (hv 1 (by decide)) (Wp.ps (h0 1 (by decide)) (Wp.cl (hv 2 (by decide)) (Wp.ps (h0 2 (by decide)) (Wp.cl (hv 3 (by decide)) (Wp.ps (h0 3 (by decide)) (Wp.cl hf (Wp.cl hd (Wp.ret rfl)))))))))))
theorem LV.md {x : Nat} {tp : Nat → Int32} {len st pos : Nat} {kd : Int32} {M N : Mem} (h : LV x tp len st pos kd M N) : N.1 (x + 95) 15 = mdP kd := h.2.1.2.2.2.2.1
theorem md_is {kd : Int32} : (mdP kd = 2 ↔ kd = 3) ∧ (mdP kd = 1 ↔ kd = 2) ∧ (mdP kd = 0 ↔ kd = 0) := by
  unfold mdP
  by_cases h0 : kd = 0
  · rw [if_pos h0]
    subst h0
    decide
  · rw [if_neg h0]
    by_cases h2 : kd = 2
    · rw [if_pos h2]
      subst h2
      decide
    · rw [if_neg h2]
      by_cases h3 : kd = 3
      · rw [if_pos h3]
        subst h3
        decide
      · rw [if_neg h3]
        by_cases h1 : kd = 1
        · rw [if_pos h1]
          exact ⟨⟨fun h => absurd h (by decide), fun h => absurd h h3⟩, ⟨fun h => absurd h (by decide), fun h => absurd h h2⟩, ⟨fun h => absurd h (by decide), fun h => absurd h h0⟩⟩
        · rw [if_neg h1]
          exact ⟨⟨fun h => absurd h (by decide), fun h => absurd h h3⟩, ⟨fun h => absurd h (by decide), fun h => absurd h h2⟩, ⟨fun h => absurd h (by decide), fun h => absurd h h0⟩⟩
theorem part_word {x sp i fm fc b len : Nat} {e e' : Int32} {tp : Nat → Int32} (hb : b < 40) : ∀ M N st pos kd cs, LV x tp len st pos kd M N → RX x sp i cs M N → cs.length ≤ st → kd = 2 → ∃ M' N', f_X6_readPart (fc + 1) (x + 1) e M = some ((), M') ∧ f_X11_readPart (fm + 1) (x + 95) e' N = some ((), N') ∧ ER x sp i tp len b st cs M N M' N' := by
  intro M N st pos kd cs hL hR hcs hk
  obtain ⟨v, hv1, hv2, hv01, hv3⟩ := hL.words (o := 0) (n := 4) (by decide)
  obtain ⟨w, w1, w2⟩ := which_ok (t := x + 95) (o := 0) (n := 4) hv2 (by decide) 4 0 FU (by omega) (by unfold FU; omega) (fun j hj => by omega)
  have hle := hL.le
  have hk5 : M.1 (x + 1) 5 = 2 := hL.kd.trans hk
  have hmd : N.1 (x + 95) 15 = 1 := by rw [hL.md]; exact md_is.2.1.mpr hk
  have hmd2 : ¬ N.1 (x + 95) 15 = 2 := by rw [hmd]; decide
  have h19 := hL.2.2.2.1
  have cls : ∀ M2, f_X6_readValue (x + 1) M = some ((), M2) → f_X6_readPart (fc + 1) (x + 1) e M = some ((), M2) := fun M2 h => by
    show b_X6_readPart (fam_X6_readExpr fc).1 (fam_X6_readExpr fc).2 (x + 1) e M = some ((), M2)
    refine Wp.eq ?_
    unfold b_X6_readPart
    exact Wp.j1 (Wp.ng (by rw [hk5]; decide) (Wp.ps hk5 (Wp.cl h (Wp.ret rfl))))
  have hwh : f_X11_which (x + 95) (x + 95 + 1) 0 4 N = some (w, N) := w1
  rcases w2 with ⟨ew, hz⟩ | ⟨j, hj, ew, hnz, hz⟩
  · obtain ⟨M', N', f1, f2, hD, fR, fT⟩ := hL.fail (f := 3) (by decide)
    refine ⟨M', N', cls _ (rv_none hv1 hz f1 hD.adv), ?_, fR.E, fT.G, Or.inr ⟨3, _, hD⟩⟩
    show b_X11_readPart (fam_X11_readExpression fm).1 (fam_X11_readExpression fm).2.1 (fam_X11_readExpression fm).2.2.1 (fam_X11_readExpression fm).2.2.2.1 (fam_X11_readExpression fm).2.2.2.2.1 (fam_X11_readExpression fm).2.2.2.2.2 (x + 95) e' N = some ((), N')
    refine Wp.eq ?_
    unfold b_X11_readPart
    exact Wp.ps h19 (Wp.ng hmd2 (Wp.ps hmd (Wp.cl hwh (Wp.j1 (Wp.ps ew (Wp.cl f2 (Wp.cl (lay0 hD.n19) (Wp.j1 (Wp.ng hD.n19 (Wp.ret rfl))))))))))
  · have hsg : (-1 - Int32.ofNat j : Int32).toInt = -1 - (j : Int) := by
      have : j = 0 ∨ j = 1 ∨ j = 2 ∨ j = 3 := by omega
      rcases this with e | e | e | e <;> subst e <;> decide
    have htr : trS (-1 - Int32.ofNat j) = -1 - Int32.ofNat j := trS_id (by rw [hsg]; omega)
    have hkd : ¬ kd = 0 := by rw [hk]; decide
    have hsp := hle.2.2.2 hkd
    obtain ⟨M1, N1, a1, a2, hL1, hR1, fM1, fN1⟩ := add_lay (u := -1 - Int32.ofNat j) hL hR (by omega)
    rw [htr] at a2
    obtain ⟨st2, pos2, kd2, M2, N2, d1, d2, hL2, hp2, fM2, fN2⟩ := hL1.adv
    refine ⟨M2, N2, cls _ (rv_hit hv1 hj hz hnz hR.gd a1 d1), ?_, fM1.tr fM2.E, fN1.tr fN2.G, Or.inl ⟨st2, pos2, kd2, [-1 - Int32.ofNat j], hL2, hR1.cg fM2 fN2, by simp; omega, by simp, fun d hd => dpl_one (by rw [hsg]; omega) (by omega)⟩⟩
    show b_X11_readPart (fam_X11_readExpression fm).1 (fam_X11_readExpression fm).2.1 (fam_X11_readExpression fm).2.2.1 (fam_X11_readExpression fm).2.2.2.1 (fam_X11_readExpression fm).2.2.2.2.1 (fam_X11_readExpression fm).2.2.2.2.2 (x + 95) e' N = some ((), N2)
    refine Wp.eq ?_
    unfold b_X11_readPart
    subst ew
    have nw : ¬ Int32.ofNat j = -1 := ofn_ne (by omega)
    exact Wp.ps h19 (Wp.ng hmd2 (Wp.ps hmd (Wp.cl hwh (Wp.j1 (Wp.ng nw (Wp.cl a2 (Wp.j1 (Wp.ps hL1.2.2.2.1 (Wp.cl d2 (Wp.ret rfl))))))))))
theorem part_num {x sp i fm fc b len : Nat} {e e' : Int32} {tp : Nat → Int32} (hb : b < 40) : ∀ M N st pos kd cs, LV x tp len st pos kd M N → RX x sp i cs M N → cs.length ≤ st → kd = 3 → ∃ M' N', f_X6_readPart (fc + 1) (x + 1) e M = some ((), M') ∧ f_X11_readPart (fm + 1) (x + 95) e' N = some ((), N') ∧ ER x sp i tp len b st cs M N M' N' := by
  intro M N st pos kd cs hL hR hcs hk
  have hle := hL.le
  have hk5 : M.1 (x + 1) 5 = 3 := hL.kd.trans hk
  have hmd : N.1 (x + 95) 15 = 2 := by rw [hL.md]; exact md_is.1.mpr hk
  have h19 := hL.2.2.2.1
  have e0 : (0 : Int32).toInt = 0 := rfl
  have e9 : (9999 : Int32).toInt = 9999 := rfl
  obtain ⟨v, w, M1, N1, n1, n2, fM1, fN1, b1, b2, hres⟩ := hL.num (lo := 0) (hi := 9999) (by rw [e9]; omega) (by rw [e0, e9]; omega)
  rw [e0] at b1
  have hkd : ¬ kd = 0 := by rw [hk]; decide
  have hsp := hle.2.2.2 hkd
  have cls : ∀ M2, f_X7_add (M.2.2 2) v M1 = some ((), M2) → f_X6_readPart (fc + 1) (x + 1) e M = some ((), M2) := fun M2 h => by
    show b_X6_readPart (fam_X6_readExpr fc).1 (fam_X6_readExpr fc).2 (x + 1) e M = some ((), M2)
    refine Wp.eq ?_
    unfold b_X6_readPart
    exact Wp.j1 (Wp.ps hk5 (Wp.gp hR.gd (Wp.cl n1 (Wp.cl h (Wp.ret rfl)))))
  have mdl : ∀ N2, f_X11_lay (x + 95) w N1 = some ((), N2) → f_X11_readPart (fm + 1) (x + 95) e' N = some ((), N2) := fun N2 h => by
    show b_X11_readPart (fam_X11_readExpression fm).1 (fam_X11_readExpression fm).2.1 (fam_X11_readExpression fm).2.2.1 (fam_X11_readExpression fm).2.2.2.1 (fam_X11_readExpression fm).2.2.2.2.1 (fam_X11_readExpression fm).2.2.2.2.2 (x + 95) e' N = some ((), N2)
    refine Wp.eq ?_
    unfold b_X11_readPart
    exact Wp.ps h19 (Wp.ps hmd (Wp.cl n2 (Wp.cl h (Wp.ret rfl))))
  have hR1 := hR.fr (M' := M1) fM1.2
  rcases hres with ⟨hvw, _, st1, pos1, kd1, hL1, hp1⟩ | ⟨f, hD, _⟩
  · have hle1 := hL1.le
    obtain ⟨M2, N2, a1, a2, hL2, hR2, fM2, fN2⟩ := add_lay (u := v) hL1 (hR.cg fM1 fN1) (by omega)
    rw [fM1.2] at a1
    rw [trS_id (by omega), hvw] at a2
    exact ⟨M2, N2, cls _ a1, mdl _ a2, fM1.E.tr fM2, fN1.G.tr fN2, Or.inl ⟨st1, pos1, kd1, [v], hL2, hR2, by simp; omega, by simp, fun d hd => dpl_one (by omega) (by omega)⟩⟩
  · obtain ⟨M2, a1, fM2, g2⟩ := add_any (x := x) (sp := sp) (i := i) (u := v) (M := M1) hR.1 hR.2.1 hR1.1
    rw [fM1.2] at a1
    exact ⟨M2, N1, cls _ a1, mdl _ (lay0 hD.n19), fM1.E.tr fM2, fN1.G, Or.inr ⟨f, _, hD.cg (fun k _ => g2 k) (fun _ _ => rfl)⟩⟩
