/-! The reader: settings -/
theorem set_num {x sp c k : Nat} {lo hi : Int32} {tp : Nat → Int32} {len st pos : Nat} {kd : Int32} {L : LN} {M N : Mem} (hs : sp = x + 3 ∨ sp = x + 11) (hL : LV x tp len st pos kd M N) (hG : LG x sp L M N) (hW : LWf L) (hk : k < 7) (hh : hi.toInt ≤ 9999) (hlo : lo.toInt ≤ hi.toInt) (hv : (k = 0 → 1 ≤ lo.toInt ∧ hi.toInt ≤ 8) ∧ (k = 4 → 1 ≤ lo.toInt ∧ hi.toInt ≤ 16) ∧ (k = 6 → 1 ≤ lo.toInt ∧ hi.toInt ≤ 8) ∧ (k = 5 → -99 ≤ lo.toInt ∧ hi.toInt ≤ 99)) (hC : ∀ v M1, f_X6_passNumber (x + 1) lo hi M = some (v, M1) → f_X6_readSetting (x + 1) (Int32.ofNat c) M = some ((), wi M1 sp k v)) (hM : ∀ w N1, f_X11_readNumber (x + 95) lo hi N = some (w, N1) → f_X11_readClause (x + 95) (Int32.ofNat c) N = some ((), wi N1 (x + 95 + 3) (10 + k) w)) : ∃ M' N', f_X6_readSetting (x + 1) (Int32.ofNat c) M = some ((), M') ∧ f_X11_readClause (x + 95) (Int32.ofNat c) N = some ((), N') ∧ SR x sp tp len st L M N M' N' := by
  obtain ⟨v, w, M1, N1, a, b, h⟩ := set1 hs hL hG hW hk hh hlo hv
  exact ⟨_, _, hC _ _ a, hM _ _ b, h⟩
theorem set_gain {x sp : Nat} {tp : Nat → Int32} {len st pos : Nat} {kd : Int32} {L : LN} {M N : Mem} (hs : sp = x + 3 ∨ sp = x + 11) (hsp : M.2.2 1 = sp) (hL : LV x tp len st pos kd M N) (hG : LG x sp L M N) (hW : LWf L) : ∃ M' N', f_X6_readSetting (x + 1) (Int32.ofNat 2) M = some ((), M') ∧ f_X11_readClause (x + 95) (Int32.ofNat 2) N = some ((), N') ∧ SR x sp tp len st L M N M' N' := by
  have e0 : (0 : Int32).toInt = 0 := rfl
  have e9 : (9 : Int32).toInt = 9 := rfl
  obtain ⟨v, w, M1, N1, a, b, h⟩ := set1 (k := 2) (lo := 0) (hi := 9) hs hL hG hW (by decide) (by decide) (by decide) ⟨fun e => absurd e (by decide), fun e => absurd e (by decide), fun e => absurd e (by decide), fun e => absurd e (by decide)⟩
  have hs1 : (wi M1 sp 2 v).2.2 1 = sp := h.1.2.2.2.trans hsp
  have cls : ∀ v2 M2, f_X6_passNumber (x + 1) 0 9 (wi M1 sp 2 v) = some (v2, M2) → f_X6_readSetting (x + 1) (Int32.ofNat 2) M = some ((), wi M2 sp 3 v2) := fun v2 M2 h2 => by
    refine Wp.eq ?_
    unfold f_X6_readSetting
    refine Wp.j1 (Wp.ng (by decide) (Wp.ng (by decide) (Wp.ng (by decide) (Wp.ps rfl (Wp.gp (spgd hs hsp) (Wp.cl a ?_))))))
    rw [hsp]
    refine Wp.nam (Wp.gp (spgd hs hs1) (Wp.cl h2 ?_))
    rw [hs1]
    exact Wp.nam (Wp.ret rfl)
  have mdl : ∀ w2 N2, f_X11_readNumber (x + 95) 0 9 (wi N1 (x + 95 + 3) 12 w) = some (w2, N2) → f_X11_readClause (x + 95) (Int32.ofNat 2) N = some ((), wi N2 (x + 95 + 3) 13 w2) := fun w2 N2 h2 => by
    refine Wp.eq ?_
    unfold f_X11_readClause
    exact Wp.j1 (Wp.ng (by decide) (Wp.j1 (Wp.ng (by decide) (Wp.j1 (Wp.ps rfl (Wp.cl b (Wp.nam (Wp.cl h2 (Wp.nam (Wp.j1 (Wp.ng (by decide) (Wp.j1 (Wp.ng (by decide) (Wp.j1 (Wp.ng (by decide) (Wp.j1 (Wp.ng (by decide) (Wp.ng (by decide) (Wp.ret rfl)))))))))))))))))))
  rcases h.2.2 with ⟨st1, pos1, kd1, L1, hL1, hG1, hW1, e1, hst1⟩ | ⟨f, p, hD⟩
  · obtain ⟨v2, w2, M2, N2, a2, b2, h2⟩ := set1 (k := 3) (lo := 0) (hi := 9) hs hL1 hG1 hW1 (by decide) (by decide) (by decide) ⟨fun e => absurd e (by decide), fun e => absurd e (by decide), fun e => absurd e (by decide), fun e => absurd e (by decide)⟩
    exact ⟨_, _, cls _ _ a2, mdl _ _ b2, SR.next h.1 h.2.1 hst1 e1 h2⟩
  · obtain ⟨d1, d2⟩ := hD.num (lo := 0) (hi := 9)
    exact ⟨_, _, cls _ _ d1, mdl _ _ d2, h.1.tr (wiL (by omega)), h.2.1.tr (wiK (by omega)), Or.inr ⟨f, p, hD.sp hs (fun b j h => by rw [wi_rwo (by omega)]) (fun b j h _ => by rw [wi_rwo h])⟩⟩
theorem set_off {x sp : Nat} {tp : Nat → Int32} {len st pos : Nat} {kd : Int32} {L : LN} {M N : Mem} (hs : sp = x + 3 ∨ sp = x + 11) (hsp : M.2.2 1 = sp) (hL : LV x tp len st pos kd M N) (hG : LG x sp L M N) (hW : LWf L) : ∃ M' N', f_X6_readSetting (x + 1) (Int32.ofNat 4) M = some ((), M') ∧ f_X11_readClause (x + 95) (Int32.ofNat 4) N = some ((), N') ∧ SR x sp tp len st L M N M' N' := by
  have e0 : (0 : Int32).toInt = 0 := rfl
  have e99 : (99 : Int32).toInt = 99 := rfl
  have cls : ∀ v M1, f_X6_readOffset (x + 1) M = some (v, M1) → f_X6_readSetting (x + 1) (Int32.ofNat 4) M = some ((), wi M1 sp 5 v) := fun v M1 h => by
    refine Wp.eq ?_
    unfold f_X6_readSetting
    refine Wp.j1 (Wp.ng (by decide) (Wp.ng (by decide) (Wp.ng (by decide) (Wp.ng (by decide) (Wp.ng (by decide) (Wp.ps rfl (Wp.gp (spgd hs hsp) (Wp.cl h ?_))))))))
    rw [hsp]
    exact Wp.nam (Wp.ret rfl)
  have hm := hL.mark (c := 45) (by decide)
  by_cases hk : kd = 45
  · rw [if_pos hk] at hm
    obtain ⟨st1, pos1, kd1, M1, N1, a1, a2, hL1, hp1, fR1, fT1⟩ := hL.adv
    have hle := hL.le
    obtain ⟨v, w, M2, N2, n1, n2, fR, fT, b1, b2, hres⟩ := hL1.num (lo := 0) (hi := 99) (by decide) (by decide)
    rw [e0] at b1
    rw [e99] at b2
    have hneg : (-v).toInt = -v.toInt := ti_neg (by omega)
    have ro : f_X6_readOffset (x + 1) M = some (-v, M2) := by
      refine Wp.eq ?_
      unfold f_X6_readOffset
      exact Wp.ps (hL.kd.trans hk) (Wp.cl a1 (Wp.cl n1 (Wp.ret rfl)))
    have mdl : f_X11_readClause (x + 95) (Int32.ofNat 4) N = some ((), wi N2 (x + 95 + 3) 15 (-w)) := by
      refine Wp.eq ?_
      unfold f_X11_readClause
      exact Wp.j1 (Wp.ng (by decide) (Wp.j1 (Wp.ng (by decide) (Wp.j1 (Wp.ng (by decide) (Wp.j1 (Wp.ng (by decide) (Wp.j1 (Wp.ps rfl (Wp.cl hm (Wp.j1 (Wp.ng (by decide) (Wp.cl a2 (Wp.cl n2 (Wp.j1 (Wp.ng (by decide) (Wp.nam (Wp.j1 (Wp.ng (by decide) (Wp.j1 (Wp.ng (by decide) (Wp.ng (by decide) (Wp.ret rfl)))))))))))))))))))))))
    refine ⟨_, _, cls _ _ ro, mdl, (fR1.L.tr fR.L).tr (wiL (by omega)), (fT1.K.tr fT.K).tr (wiK (by omega)), ?_⟩
    rcases hres with ⟨hvw, _, st2, pos2, kd2, hL2, hp2⟩ | ⟨f, hD, _⟩
    · subst hvw
      have hle1 := hL1.le
      exact Or.inl ⟨st2, pos2, kd2, (rup L.1 5 (-v), L.2), hL2.sp hs (fun b j h => by rw [wi_rwo (by omega)]) (fun b j h _ => by rw [wi_rwo h]), ((hG.RT hs fR1 fT1).RT hs fR fT).set (k := 5) (by decide), hW.set (by decide) ⟨fun e => absurd e (by decide), fun e => absurd e (by decide), fun e => absurd e (by decide), fun _ => by rw [hneg]; omega⟩, rfl, by omega⟩
    · exact Or.inr ⟨f, _, hD.sp hs (fun b j h => by rw [wi_rwo (by omega)]) (fun b j h _ => by rw [wi_rwo h])⟩
  · rw [if_neg hk] at hm
    obtain ⟨v, w, M1, N1, a, b, h⟩ := set1 (k := 5) (lo := 0) (hi := 99) hs hL hG hW (by decide) (by decide) (by decide) ⟨fun e => absurd e (by decide), fun e => absurd e (by decide), fun e => absurd e (by decide), fun _ => ⟨by decide, by decide⟩⟩
    have ro : f_X6_readOffset (x + 1) M = some (v, M1) := by
      refine Wp.eq ?_
      unfold f_X6_readOffset
      exact Wp.ng (by rw [hL.kd]; exact hk) (Wp.cl a (Wp.ret rfl))
    have mdl : f_X11_readClause (x + 95) (Int32.ofNat 4) N = some ((), wi N1 (x + 95 + 3) 15 w) := by
      refine Wp.eq ?_
      unfold f_X11_readClause
      exact Wp.j1 (Wp.ng (by decide) (Wp.j1 (Wp.ng (by decide) (Wp.j1 (Wp.ng (by decide) (Wp.j1 (Wp.ng (by decide) (Wp.j1 (Wp.ps rfl (Wp.cl hm (Wp.j1 (Wp.ps rfl (Wp.cl b (Wp.j1 (Wp.ps rfl (Wp.nam (Wp.j1 (Wp.ng (by decide) (Wp.j1 (Wp.ng (by decide) (Wp.ng (by decide) (Wp.ret rfl))))))))))))))))))))))
    exact ⟨_, _, cls _ _ ro, mdl, h⟩
theorem setting {x sp c : Nat} {tp : Nat → Int32} {len st pos : Nat} {kd : Int32} {L : LN} {M N : Mem} (hs : sp = x + 3 ∨ sp = x + 11) (hsp : M.2.2 1 = sp) (hc : c < 7) (hL : LV x tp len st pos kd M N) (hG : LG x sp L M N) (hW : LWf L) : ∃ M' N', f_X6_readSetting (x + 1) (Int32.ofNat c) M = some ((), M') ∧ f_X11_readClause (x + 95) (Int32.ofNat c) N = some ((), N') ∧ SR x sp tp len st L M N M' N' := by
  have hc' : c = 0 ∨ c = 1 ∨ c = 2 ∨ c = 3 ∨ c = 4 ∨ c = 5 ∨ c = 6 := by omega
  have gd := spgd hs hsp
  rcases hc' with e | e | e | e | e | e | e <;> subst e
  · refine set_num (k := 0) (lo := 1) (hi := 8) hs hL hG hW (by decide) (by decide) (by decide) ⟨fun _ => ⟨by decide, by decide⟩, fun e => absurd e (by decide), fun e => absurd e (by decide), fun e => absurd e (by decide)⟩ (fun v M1 h => Wp.eq ?_) (fun w N1 h => Wp.eq ?_)
    · unfold f_X6_readSetting
      refine Wp.j1 (Wp.ng (by decide) (Wp.ps rfl (Wp.gp gd (Wp.cl h ?_))))
      rw [hsp]
      exact Wp.nam (Wp.ret rfl)
    · unfold f_X11_readClause
      exact Wp.j1 (Wp.ps rfl (Wp.cl h (Wp.nam (Wp.j1 (Wp.ng (by decide) (Wp.j1 (Wp.ng (by decide) (Wp.j1 (Wp.ng (by decide) (Wp.j1 (Wp.ng (by decide) (Wp.j1 (Wp.ng (by decide) (Wp.j1 (Wp.ng (by decide) (Wp.ng (by decide) (Wp.ret rfl)))))))))))))))))
  · refine set_num (k := 1) (lo := 1) (hi := 64) hs hL hG hW (by decide) (by decide) (by decide) ⟨fun e => absurd e (by decide), fun e => absurd e (by decide), fun e => absurd e (by decide), fun e => absurd e (by decide)⟩ (fun v M1 h => Wp.eq ?_) (fun w N1 h => Wp.eq ?_)
    · unfold f_X6_readSetting
      refine Wp.j1 (Wp.ng (by decide) (Wp.ng (by decide) (Wp.ps rfl (Wp.gp gd (Wp.cl h ?_)))))
      rw [hsp]
      exact Wp.nam (Wp.ret rfl)
    · unfold f_X11_readClause
      exact Wp.j1 (Wp.ng (by decide) (Wp.j1 (Wp.ps rfl (Wp.cl h (Wp.nam (Wp.j1 (Wp.ng (by decide) (Wp.j1 (Wp.ng (by decide) (Wp.j1 (Wp.ng (by decide) (Wp.j1 (Wp.ng (by decide) (Wp.j1 (Wp.ng (by decide) (Wp.ng (by decide) (Wp.ret rfl)))))))))))))))))
  · exact set_gain hs hsp hL hG hW
  · refine set_num (k := 4) (lo := 1) (hi := 16) hs hL hG hW (by decide) (by decide) (by decide) ⟨fun e => absurd e (by decide), fun _ => ⟨by decide, by decide⟩, fun e => absurd e (by decide), fun e => absurd e (by decide)⟩ (fun v M1 h => Wp.eq ?_) (fun w N1 h => Wp.eq ?_)
    · unfold f_X6_readSetting
      refine Wp.j1 (Wp.ng (by decide) (Wp.ng (by decide) (Wp.ng (by decide) (Wp.ng (by decide) (Wp.ps rfl (Wp.gp gd (Wp.cl h ?_)))))))
      rw [hsp]
      exact Wp.nam (Wp.ret rfl)
    · unfold f_X11_readClause
      exact Wp.j1 (Wp.ng (by decide) (Wp.j1 (Wp.ng (by decide) (Wp.j1 (Wp.ng (by decide) (Wp.j1 (Wp.ps rfl (Wp.cl h (Wp.nam (Wp.j1 (Wp.ng (by decide) (Wp.j1 (Wp.ng (by decide) (Wp.j1 (Wp.ng (by decide) (Wp.ng (by decide) (Wp.ret rfl)))))))))))))))))
  · exact set_off hs hsp hL hG hW
  · refine set_num (k := 6) (lo := 1) (hi := 8) hs hL hG hW (by decide) (by decide) (by decide) ⟨fun e => absurd e (by decide), fun e => absurd e (by decide), fun _ => ⟨by decide, by decide⟩, fun e => absurd e (by decide)⟩ (fun v M1 h => Wp.eq ?_) (fun w N1 h => Wp.eq ?_)
    · unfold f_X6_readSetting
      refine Wp.j1 (Wp.ng (by decide) (Wp.ng (by decide) (Wp.ng (by decide) (Wp.ng (by decide) (Wp.ng (by decide) (Wp.ng (by decide) (Wp.ps rfl (Wp.gp gd (Wp.cl h ?_)))))))))
      rw [hsp]
      exact Wp.nam (Wp.ret rfl)
    · unfold f_X11_readClause
      exact Wp.j1 (Wp.ng (by decide) (Wp.j1 (Wp.ng (by decide) (Wp.j1 (Wp.ng (by decide) (Wp.j1 (Wp.ng (by decide) (Wp.j1 (Wp.ng (by decide) (Wp.j1 (Wp.ps rfl (Wp.cl h (Wp.nam (Wp.j1 (Wp.ng (by decide) (Wp.ng (by decide) (Wp.ret rfl)))))))))))))))))
  · obtain ⟨M', N', a, b, h⟩ := set_word hs hsp hL hG hW
    refine ⟨M', N', Wp.eq ?_, Wp.eq ?_, h⟩
    · unfold f_X6_readSetting
      exact Wp.j1 (Wp.ps (by decide) (Wp.cl a (Wp.ret rfl)))
    · unfold f_X11_readClause
      exact Wp.j1 (Wp.ng (by decide) (Wp.j1 (Wp.ng (by decide) (Wp.j1 (Wp.ng (by decide) (Wp.j1 (Wp.ng (by decide) (Wp.j1 (Wp.ng (by decide) (Wp.j1 (Wp.ng (by decide) (Wp.j1 (Wp.ps rfl (Wp.cl b (Wp.ng (by decide) (Wp.ret rfl))))))))))))))))
