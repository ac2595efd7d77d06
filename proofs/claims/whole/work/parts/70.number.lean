/-! The reader: numbers, codes -/
theorem dv_nx {tp : Nat → Int32} {st k : Nat} {B : Int} (hB : B ≤ 999) (hk : 0 ≤ (dv tp st k).toInt ∧ (dv tp st k).toInt ≤ B) (hd : isDg (tp (st + k))) : (0 ≤ (dv tp st (k + 1)).toInt ∧ (dv tp st (k + 1)).toInt ≤ 10 * B + 9) ∧ 10 * dv tp st k + tp (st + k) - 48 = dv tp st (k + 1) := by
  have e48 : (48 : Int32).toInt = 48 := rfl
  have e57 : (57 : Int32).toInt = 57 := rfl
  have e10 : (10 : Int32).toInt = 10 := rfl
  have e1k : (100000 : Int32).toInt = 100000 := rfl
  have a := Int32.le_iff_toInt_le.mp (nlt_le.mp hd.1)
  have b := Int32.le_iff_toInt_le.mp (nlt_le.mp hd.2)
  rw [e48] at a
  rw [e57] at b
  have m : (10 * dv tp st k).toInt = 10 * (dv tp st k).toInt := by rw [ti_mul (by rw [e10]; omega) (by rw [e10]; omega), e10]
  have p : (10 * dv tp st k + tp (st + k)).toInt = 10 * (dv tp st k).toInt + (tp (st + k)).toInt := by rw [ti_add (by rw [m]; omega) (by rw [m]; omega), m]
  have q : (10 * dv tp st k + tp (st + k) - 48).toInt = 10 * (dv tp st k).toInt + (tp (st + k)).toInt - 48 := by rw [ti_sub (by rw [p, e48]; omega) (by rw [p, e48]; omega), p, e48]
  have h : 10 * dv tp st k + tp (st + k) - 48 = dv tp st (k + 1) := by
    show _ = imin 100000 (10 * dv tp st k + tp (st + k) - 48)
    unfold imin
    rw [if_pos (lt_of (by rw [q, e1k]; omega))]
  refine ⟨?_, h⟩
  rw [← h, q]
  omega
theorem dv_ok {tp : Nat → Int32} {st k : Nat} (hk : k ≤ 4) (hd : ∀ j, j < k → isDg (tp (st + j))) : (0 ≤ (dv tp st k).toInt ∧ (dv tp st k).toInt ≤ 9999) ∧ (k ≤ 3 → isDg (tp (st + k)) → 10 * dv tp st k + tp (st + k) - 48 = dv tp st (k + 1)) := by
  have d0 : 0 ≤ (dv tp st 0).toInt ∧ (dv tp st 0).toInt ≤ 0 := ⟨Int.le_refl _, Int.le_refl _⟩
  by_cases k0 : k = 0
  · subst k0
    exact ⟨by omega, fun _ h => (dv_nx (B := 0) (by decide) d0 h).2⟩
  have d1 : 0 ≤ (dv tp st 1).toInt ∧ (dv tp st 1).toInt ≤ 9 := (dv_nx (B := 0) (by decide) d0 (hd 0 (by omega))).1
  by_cases k1 : k = 1
  · subst k1
    exact ⟨by omega, fun _ h => (dv_nx (B := 9) (by decide) d1 h).2⟩
  have d2 : 0 ≤ (dv tp st 2).toInt ∧ (dv tp st 2).toInt ≤ 99 := (dv_nx (B := 9) (by decide) d1 (hd 1 (by omega))).1
  by_cases k2 : k = 2
  · subst k2
    exact ⟨by omega, fun _ h => (dv_nx (B := 99) (by decide) d2 h).2⟩
  have d3 : 0 ≤ (dv tp st 3).toInt ∧ (dv tp st 3).toInt ≤ 999 := (dv_nx (B := 99) (by decide) d2 (hd 2 (by omega))).1
  by_cases k3 : k = 3
  · subst k3
    exact ⟨by omega, fun _ h => (dv_nx (B := 999) (by decide) d3 h).2⟩
  have d4 : 0 ≤ (dv tp st 4).toInt ∧ (dv tp st 4).toInt ≤ 9999 := (dv_nx (B := 999) (by decide) d3 (hd 3 (by omega))).1
  have k4 : k = 4 := by omega
  subst k4
  exact ⟨by omega, fun h => absurd h (by decide)⟩
theorem num_loop {x st pos len : Nat} {tp : Nat → Int32} {M : Mem} (hC : CTp x tp len M) (h3 : M.1 (x + 1) 3 = Int32.ofNat pos) (hp : st ≤ pos ∧ pos ≤ len) (h4 : pos - st ≤ 4) (hd : ∀ j, j < pos - st → isDg (tp (st + j))) : ∀ (m k fu : Nat), k + m = pos - st → m < fu → lop3 fu (l_X6_numberHere_7 (x + 1)) (dv tp st k) (Int32.ofNat (st + k)) M = some (dv tp st (pos - st), M) := by
  have h7 := hC.1
  intro m
  induction m with
  | zero =>
    intro k fu hk hf
    obtain ⟨fu, rfl⟩ : ∃ q, fu = q + 1 := ⟨fu - 1, by omega⟩
    obtain rfl : k = pos - st := by omega
    refine lop3_inr (Wp.eq ?_)
    unfold l_X6_numberHere_7
    rw [h3]
    exact Wp.ps ((i_le (by omega) (by omega)).mpr (by omega)) (Wp.ret rfl)
  | succ m ih =>
    intro k fu hk hf
    obtain ⟨fu, rfl⟩ : ∃ q, fu = q + 1 := ⟨fu - 1, by omega⟩
    have e := (dv_ok (tp := tp) (st := st) (k := k) (by omega) (fun j hj => hd j (by omega))).2 (by omega) (hd k (by omega))
    have b1 : l_X6_numberHere_7 (x + 1) (dv tp st k) (Int32.ofNat (st + k)) M = some (.inl (dv tp st (k + 1), Int32.ofNat (st + (k + 1)), M)) := by
      refine Wp.eq ?_
      unfold l_X6_numberHere_7
      rw [h3]
      refine Wp.ng (i64_lt (by omega) (by omega)) (Wp.cl (hC.at (by omega)) ?_)
      rw [e]
      refine Wp.nam (Wp.nam ?_)
      rw [i_ad1]
      exact Wp.ret rfl
    exact (lop3_inl b1).trans (ih (k + 1) fu (by omega) (by omega))
theorem Tok.num {tp : Nat → Int32} {len p st pos : Nat} (h : Tok tp len p st pos 3) : ∀ j, j < pos - st → isDg (tp (st + j)) := by
  intro j hj
  obtain ⟨_, h2⟩ := h
  rcases h2 with ⟨_, _, e⟩ | ⟨a, e, b⟩
  · exact absurd e (by decide)
  · rcases b with ⟨_, b1, b2, b3, _⟩ | ⟨b, _⟩
    · by_cases e0 : j = 0
      · subst e0
        exact kind3.mp e.symm
      · exact kind3.mp (b3 (st + j) (by omega) (by omega))
    · exact absurd (Or.inr rfl) b
/-- a number is passed -/
theorem LV.num {x : Nat} {lo hi : Int32} {tp : Nat → Int32} {len st pos : Nat} {kd : Int32} {M N : Mem} (h : LV x tp len st pos kd M N) (hh : hi.toInt ≤ 9999) (hlo : lo.toInt ≤ hi.toInt) : ∃ v w M' N', f_X6_passNumber (x + 1) lo hi M = some (v, M') ∧ f_X11_readNumber (x + 95) lo hi N = some (w, N') ∧ frR x M M' ∧ frT (x + 95) N N' ∧ lo.toInt ≤ v.toInt ∧ v.toInt ≤ hi.toInt ∧ ((v = w ∧ kd = 3 ∧ ∃ st' pos' kd', LV x tp len st' pos' kd' M' N' ∧ pos ≤ st') ∨ (∃ f, DD x f (Int32.ofNat st) M' N' ∧ (f = 1 ∨ f = 2))) := by
  have hl := h.le
  by_cases hk : kd = 3
  · have hM5 : M.1 (x + 1) 5 = 3 := by rw [h.1.2.2.2]; exact hk
    have hN15 : N.1 (x + 95) 15 = 2 := by rw [h.2.1.2.2.2.2.1, hk]; rfl
    have hd1 : M.1 (x + 1) 3 - M.1 (x + 1) 4 = Int32.ofNat (pos - st) := by rw [h.1.2.1, h.1.2.2.1]; exact i_sbn (by omega)
    have hd2 : N.1 (x + 95) 18 - N.1 (x + 95) 17 = Int32.ofNat (pos - st) := by rw [h.2.1.2.2.2.1, h.2.1.2.2.1]; exact i_sbn (by omega)
    have bad : (∃ M', f_X6_fail (x + 1) 2 M = some ((), M') ∧ f_X6_passNumber (x + 1) lo hi M = some (lo, M')) → (∃ N', f_X11_wrong (x + 95) 2 N = some ((), N') ∧ (¬ N'.1 (x + 95) 19 = 0 → f_X11_readNumber (x + 95) lo hi N = some (0, N'))) → ∃ v w M' N', f_X6_passNumber (x + 1) lo hi M = some (v, M') ∧ f_X11_readNumber (x + 95) lo hi N = some (w, N') ∧ frR x M M' ∧ frT (x + 95) N N' ∧ lo.toInt ≤ v.toInt ∧ v.toInt ≤ hi.toInt ∧ ((v = w ∧ kd = 3 ∧ ∃ st' pos' kd', LV x tp len st' pos' kd' M' N' ∧ pos ≤ st') ∨ (∃ f, DD x f (Int32.ofNat st) M' N' ∧ (f = 1 ∨ f = 2))) := fun ⟨M1, a1, a2⟩ ⟨N1, b1, b2⟩ => by
      obtain ⟨M', N', e1, e2, e3, e4, e5⟩ := h.fail (f := 2) (by decide)
      have q1 := (Prod.mk.inj (Option.some.inj (e1.symm.trans a1))).2
      have q2 := (Prod.mk.inj (Option.some.inj (e2.symm.trans b1))).2
      subst q1 q2
      exact ⟨lo, 0, M', N', a2, b2 e3.n19, e4, e5, Int.le_refl _, hlo, Or.inr ⟨2, e3, Or.inr rfl⟩⟩
    obtain ⟨Mf, Nf, ef1, ef2, _, _, _⟩ := h.fail (f := 2) (by decide)
    by_cases h4 : pos - st ≤ 4
    · obtain ⟨p, hp⟩ := h.2.2.2.2
      rw [hk] at hp
      have hdg := hp.num
      have hdv := (dv_ok (tp := tp) (st := st) h4 hdg).1
      have hv16 : N.1 (x + 95) 16 = dv tp st (pos - st) := h.2.1.2.2.2.2.2 hk
      have hnum : f_X6_numberHere (x + 1) M = some (dv tp st (pos - st), M) := by
        have := num_loop h.1.1 h.1.2.1 ⟨hl.1, hl.2.1⟩ h4 hdg (pos - st) 0 FU (by omega) (by unfold FU; omega)
        refine Wp.eq ?_
        unfold f_X6_numberHere
        refine Wp.nam ?_
        rw [h.1.2.2.1]
        exact ⟨_, this, rfl⟩
      have c4 : Int32.ofNat (pos - st) ≤ 4 := (i_le (a := pos - st) (b := 4) (by omega) (by omega)).mpr h4
      have n4 : ¬ (4 : Int32) < Int32.ofNat (pos - st) := fun g => by
        have := (i_lt (a := 4) (b := pos - st) (by omega) (by omega)).mp g
        omega
      generalize dv tp st (pos - st) = v at hdv hv16 hnum
      by_cases g1 : v < lo
      · refine bad ⟨Mf, ef1, Wp.eq ?_⟩ ⟨Nf, ef2, fun h19 => Wp.eq ?_⟩
        · unfold f_X6_passNumber
          rw [hd1]
          exact Wp.ps hM5 (Wp.j2 (Wp.ps c4 (Wp.cl hnum (Wp.j0 (Wp.ps g1 (Wp.cl ef1 (Wp.ret rfl)))))))
        · unfold f_X11_readNumber
          rw [hd2, hv16]
          exact Wp.ps h.2.2.2.1 (Wp.j1 (Wp.ps hN15 (Wp.j0 (Wp.ng n4 (Wp.ps g1 (Wp.cl ef2 (Wp.j1 (Wp.ng h19 (Wp.j1 (Wp.ng h19 (Wp.ret rfl)))))))))))
      · by_cases g2 : v ≤ hi
        · obtain ⟨st', pos', kd', M', N', e1, e2, e3, e4, e5, e6⟩ := h.adv
          refine ⟨v, v, M', N', Wp.eq ?_, Wp.eq ?_, e5, e6, Int32.le_iff_toInt_le.mp (nlt_le.mp g1), Int32.le_iff_toInt_le.mp g2, Or.inl ⟨rfl, hk, st', pos', kd', e3, e4⟩⟩
          · unfold f_X6_passNumber
            rw [hd1]
            exact Wp.ps hM5 (Wp.j2 (Wp.ps c4 (Wp.cl hnum (Wp.j0 (Wp.ng g1 (Wp.ps g2 (Wp.cl e1 (Wp.ret rfl))))))))
          · unfold f_X11_readNumber
            rw [hd2, hv16]
            exact Wp.ps h.2.2.2.1 (Wp.j1 (Wp.ps hN15 (Wp.j0 (Wp.ng n4 (Wp.ng g1 (Wp.ps g2 (Wp.j1 (Wp.ps h.2.2.2.1 (Wp.j1 (Wp.ps h.2.2.2.1 (Wp.cl e2 (Wp.ret (by rw [hv16])))))))))))))
        · refine bad ⟨Mf, ef1, Wp.eq ?_⟩ ⟨Nf, ef2, fun h19 => Wp.eq ?_⟩
          · unfold f_X6_passNumber
            rw [hd1]
            exact Wp.ps hM5 (Wp.j2 (Wp.ps c4 (Wp.cl hnum (Wp.j0 (Wp.ng g1 (Wp.ng g2 (Wp.cl ef1 (Wp.ret rfl))))))))
          · unfold f_X11_readNumber
            rw [hd2, hv16]
            exact Wp.ps h.2.2.2.1 (Wp.j1 (Wp.ps hN15 (Wp.j0 (Wp.ng n4 (Wp.ng g1 (Wp.ng g2 (Wp.cl ef2 (Wp.j1 (Wp.ng h19 (Wp.j1 (Wp.ng h19 (Wp.ret rfl))))))))))))
    · have c4 : ¬ Int32.ofNat (pos - st) ≤ 4 := fun g => h4 ((i_le (a := pos - st) (b := 4) (by omega) (by omega)).mp g)
      have p4 : (4 : Int32) < Int32.ofNat (pos - st) := (i_lt (a := 4) (b := pos - st) (by omega) (by omega)).mpr (by omega)
      have e10k : (10000 : Int32).toInt = 10000 := rfl
      refine bad ⟨Mf, ef1, Wp.eq ?_⟩ ⟨Nf, ef2, fun h19 => Wp.eq ?_⟩
      · unfold f_X6_passNumber
        rw [hd1]
        exact Wp.ps hM5 (Wp.j2 (Wp.ng c4 (Wp.j0 (Wp.ng (nlt_of (by rw [e10k]; omega)) (Wp.ng (nle_of (by rw [e10k]; omega)) (Wp.cl ef1 (Wp.ret rfl)))))))
      · unfold f_X11_readNumber
        rw [hd2]
        exact Wp.ps h.2.2.2.1 (Wp.j1 (Wp.ps hN15 (Wp.j0 (Wp.ps p4 (Wp.cl ef2 (Wp.j1 (Wp.ng h19 (Wp.j1 (Wp.ng h19 (Wp.ret rfl))))))))))
  · obtain ⟨M', N', e1, e2, e3, e4, e5⟩ := h.fail (f := 1) (by decide)
    have hN15 : ¬ N.1 (x + 95) 15 = 2 := by
      rw [h.2.1.2.2.2.2.1]
      intro e
      unfold mdP at e
      by_cases g0 : kd = 0
      · rw [if_pos g0] at e; exact absurd e (by decide)
      · rw [if_neg g0] at e
        by_cases g2 : kd = 2
        · rw [if_pos g2] at e; exact absurd e (by decide)
        · rw [if_neg g2, if_neg hk] at e
          by_cases g1 : kd = 1
          · rw [if_pos g1] at e; exact absurd e (by decide)
          · rw [if_neg g1] at e; exact absurd e (by decide)
    refine ⟨lo, 0, M', N', Wp.eq ?_, Wp.eq ?_, e4, e5, Int.le_refl _, hlo, Or.inr ⟨1, e3, Or.inl rfl⟩⟩
    · unfold f_X6_passNumber
      exact Wp.ng (by rw [h.1.2.2.2]; exact hk) (Wp.cl e1 (Wp.ret rfl))
    · unfold f_X11_readNumber
      exact Wp.ps h.2.2.2.1 (Wp.j1 (Wp.ng hN15 (Wp.cl e2 (Wp.j1 (Wp.ng e3.n19 (Wp.j1 (Wp.ng e3.n19 (Wp.ret rfl))))))))
theorem DD.num {x : Nat} {f p lo hi : Int32} {M N : Mem} (h : DD x f p M N) : f_X6_passNumber (x + 1) lo hi M = some (lo, M) ∧ f_X11_readNumber (x + 95) lo hi N = some (0, N) := by
  refine ⟨Wp.eq ?_, number0 h.n19⟩
  unfold f_X6_passNumber
  exact Wp.ng (by rw [h.2.2.2.1]; decide) (Wp.cl h.fail (Wp.ret rfl))
