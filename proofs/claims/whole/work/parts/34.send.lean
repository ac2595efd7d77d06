/-! Sending, in model and class; the class's step. -/
abbrev LN : Type := (Nat → Int32) × (Nat → Int32) × List Int32 × List Int32
def EnvM (t : Nat) (N : Mem) (L : LN) : Prop := (∀ k, k < 8 → N.1 (t + 3) k = L.1 k) ∧ (∀ k : Nat, k < 16 ∧ (k = 0 ∨ (k : Int) < (L.1 7).toInt) → N.1 (t + 4) k = L.2.1 k) ∧ RulM N t 8 (t + 5) L.2.2.1 ∧ RulM N t 9 (t + 6) L.2.2.2 ∧ CVm t N L.2.2.1 L.2.2.2
def LWf (L : LN) : Prop := (1 ≤ (L.1 0).toInt ∧ (L.1 0).toInt ≤ 8) ∧ (1 ≤ (L.1 4).toInt ∧ (L.1 4).toInt ≤ 16) ∧ (1 ≤ (L.1 6).toInt ∧ (L.1 6).toInt ≤ 8) ∧ (1 ≤ (L.1 7).toInt ∧ (L.1 7).toInt ≤ 16) ∧ (-99 ≤ (L.1 5).toInt ∧ (L.1 5).toInt ≤ 99) ∧ (¬ L.2.2.1 = [] → dpl L.2.2.1 0 = some 1) ∧ (¬ L.2.2.2 = [] → dpl L.2.2.2 0 = some 1)
def VM (t : Nat) (N N' : Mem) : Prop := (∀ b k, ¬ b = t + 8 → ¬ (t + 10 ≤ b ∧ b ≤ t + 14) → ¬ (b = t ∧ k = 29) → N'.1 b k = N.1 b k) ∧ N'.2 = N.2
theorem VM.rf {t : Nat} {N : Mem} : VM t N N := ⟨fun _ _ _ _ _ => rfl, rfl⟩
theorem VM.tr {t : Nat} {N N1 N2 : Mem} (h1 : VM t N N1) (h2 : VM t N1 N2) : VM t N N2 := ⟨fun b k a1 a2 a3 => (h2.1 b k a1 a2 a3).trans (h1.1 b k a1 a2 a3), h2.2.trans h1.2⟩
theorem VM.wi8 {t k : Nat} {v : Int32} {N N' : Mem} (h : VM t N N') : VM t N (wi N' (t + 8) k v) := ⟨fun b j a1 a2 a3 => by
  have : ¬ (b = t + 8 ∧ j = k) := fun e => a1 e.1
  simp only [wi, if_neg this]
  exact h.1 b j a1 a2 a3, h.2⟩
theorem VM.wi10 {t k : Nat} {v : Int32} {N N' : Mem} (h : VM t N N') : VM t N (wi N' (t + 10) k v) := ⟨fun b j a1 a2 a3 => by
  have : ¬ (b = t + 10 ∧ j = k) := fun e => a2 (by omega)
  simp only [wi, if_neg this]
  exact h.1 b j a1 a2 a3, h.2⟩
theorem VM.wi29 {t : Nat} {v : Int32} {N N' : Mem} (h : VM t N N') : VM t N (wi N' t 29 v) := ⟨fun b j a1 a2 a3 => by
  have : ¬ (b = t ∧ j = 29) := a3
  simp only [wi, if_neg this]
  exact h.1 b j a1 a2 a3, h.2⟩
theorem VM.rs8 {t : Nat} {S : Nat → Int32} {N N' : Mem} (h : VM t N N') : VM t N (rset N' (t + 8) S) := ⟨fun b j a1 a2 a3 => by
  rw [rset_ne a1]
  exact h.1 b j a1 a2 a3, h.2⟩
theorem Vol.vm {t : Nat} {N N' : Mem} (h : Vol t N N') : VM t N N' := ⟨fun b k a1 a2 a3 => h.1 b k (fun e => a2 (by omega)), h.2⟩
theorem CVm.cg {t : Nat} {N N' : Mem} {cd cl : List Int32} (h : CVm t N cd cl) (e1 : N'.1 (t + 12) = N.1 (t + 12)) (e2 : N'.1 (t + 13) = N.1 (t + 13)) (e3 : N'.1 (t + 14) = N.1 (t + 14)) : CVm t N' cd cl := by
  unfold CVm
  rw [e1, e2, e3]
  exact h
theorem EnvM.vm {t : Nat} {N N' : Mem} {L : LN} (h : EnvM t N L) (hv : VM t N N') (hc : CVm t N' L.2.2.1 L.2.2.2) : EnvM t N' L := by
  obtain ⟨h1, h2, h3, h4, h5⟩ := h
  refine ⟨fun k hk => ?_, fun k hk => ?_, ⟨?_, h3.2.1, fun j hj => ?_⟩, ⟨?_, h4.2.1, fun j hj => ?_⟩, hc⟩
  · rw [hv.1 _ _ (by omega) (by omega) (by omega)]; exact h1 k hk
  · rw [hv.1 _ _ (by omega) (by omega) (by omega)]; exact h2 k hk
  · rw [hv.1 _ _ (by omega) (by omega) (by omega)]; exact h3.1
  · rw [hv.1 _ _ (by omega) (by omega) (by omega)]; exact h3.2.2 j hj
  · rw [hv.1 _ _ (by omega) (by omega) (by omega)]; exact h4.1
  · rw [hv.1 _ _ (by omega) (by omega) (by omega)]; exact h4.2.2 j hj
theorem wi_rwo {N : Mem} {a b k : Nat} {v : Int32} (h : ¬ b = a) : (wi N a k v).1 b = N.1 b := funext fun j => by
  simp only [wi]
  rw [if_neg (fun e => h e.1)]
theorem wi_sl {N : Mem} {a k j : Nat} {v : Int32} (h : ¬ j = k) : (wi N a k v).1 a j = N.1 a j := by
  simp only [wi]
  rw [if_neg (fun e => h e.2)]
theorem wi_hit {N : Mem} {a k : Nat} {v : Int32} : (wi N a k v).1 a k = v := by simp [wi]
theorem wi_rr {N : Mem} {a k : Nat} {v : Int32} : (wi N a k v).1 a = rup (N.1 a) k v := funext fun j => by simp [wi, rup]
def delV (L : LN) (a b c d : Int32) : Int32 := if L.2.2.1 = [] then 3 else imax 0 (imin 60 (valS L.2.2.1 a b c d))
def lstF (L : LN) (a b c d : Int32) : Int32 := if L.2.2.2 = [] then 0 else if valS L.2.2.2 a b c d ≤ 0 then 0 else 1
def finR (f : Int32) (r : Nat → Int32) : Int32 := if f = 0 then (if r 31 = 40 then 1 else 0) else 1
def lostR (f s sl : Int32) (r : Nat → Int32) : Int32 × Int32 × (Nat → Int32) :=
  if s ≤ 0 then (if r 25 ≤ 0 then (finR f r, s, r) else (1, s, rup r 25 (r 25 - 1)))
  else (if ((sl >>> ((s - 1) &&& 31)) &&& 1) = 1 then (1, s - 1, r) else (finR f r, s - 1, r))
theorem e_isOf (a b : Int32) (M : Mem) : f_X11_isOf a b M = some (if ((a >>> (b &&& 31)) &&& 1) = 1 then 1 else 0, M) := by
  unfold f_X11_isOf jn1 gdp
  by_cases h : ((a >>> (b &&& 31)) &&& 1) = 1 <;> simp [h]
theorem len_0 {n : Nat} (hn : n ≤ 700) : (Int32.ofNat n ≤ 0) ↔ n = 0 := by
  have h : Int32.ofNat n ≤ Int32.ofNat 0 ↔ n ≤ 0 := i_le (by omega) (by omega)
  rw [show (0 : Int32) = Int32.ofNat 0 from rfl, h]
  omega
theorem nlt_le {a b : Int32} : ¬ a < b ↔ b ≤ a := by
  rw [Int32.lt_iff_toInt_lt, Int32.le_iff_toInt_le]
  omega
theorem nle_lt {a b : Int32} : ¬ a ≤ b ↔ b < a := by
  rw [Int32.lt_iff_toInt_lt, Int32.le_iff_toInt_le]
  omega
theorem m_fin {t : Nat} {N : Mem} {L : LN} (hW : LWf L) (hE : EnvM t N L) : Wp (jn2 (fun z2 M3 => gdp (z2 = 0 ∨ z2 = 1) (some (z2, M3))) (fun J91 => jn1 (fun M4 => J91 (1 : Int32) M4) (fun J86 => jn1 (fun M5 => if (M5.1 (t + 8) 31) = (40 : Int32) then (J86 M5) else (J91 (0 : Int32) M5)) (fun J74 => if (N.1 (t + 3) 9) ≤ 0 then (J74 N) else (bd (f_X11_ruleNow t (1 : Int32) N) (fun u6 M7 => if 0 < u6 then (J86 M7) else (J74 M7)))))))
    (fun q => q.1 = finR (lstF L (N.1 (t + 10) 0) (N.1 (t + 10) 1) (N.1 (t + 10) 2) (N.1 (t + 10) 3)) (N.1 (t + 8)) ∧ Vol t N q.2 ∧ CVm t q.2 L.2.2.1 L.2.2.2) := by
  obtain ⟨h1, h2, h3, h4, h5⟩ := hE
  have tl : ∀ N' : Mem, Vol t N N' → CVm t N' L.2.2.1 L.2.2.2 → ∀ f : Int32, f = 0 → Wp (if (N'.1 (t + 8) 31) = (40 : Int32) then (gdp ((1 : Int32) = 0 ∨ (1 : Int32) = 1) (some ((1 : Int32), N'))) else (gdp ((0 : Int32) = 0 ∨ (0 : Int32) = 1) (some ((0 : Int32), N')))) (fun q => q.1 = finR f (N.1 (t + 8)) ∧ Vol t N q.2 ∧ CVm t q.2 L.2.2.1 L.2.2.2) := by
    intro N' hv hc f hf
    have e8 : N'.1 (t + 8) 31 = N.1 (t + 8) 31 := hv.1 _ _ (by omega)
    unfold finR
    rw [if_pos hf, e8]
    refine Wp.br (fun h => ?_) (fun h => ?_)
    · refine Wp.gp (Or.inr rfl) (Wp.ret ⟨(if_pos h).symm, hv, hc⟩)
    · refine Wp.gp (Or.inl rfl) (Wp.ret ⟨(if_neg h).symm, hv, hc⟩)
  refine Wp.j2 (Wp.j1 (Wp.j1 ?_))
  rw [h4.1]
  refine Wp.br (fun h => ?_) (fun h => ?_)
  · have h0 : L.2.2.2 = [] := List.eq_nil_of_length_eq_zero ((len_0 h4.2.1).mp h)
    exact tl N Vol.rf h5 _ (by unfold lstF; rw [if_pos h0])
  · have h0 : ¬ L.2.2.2 = [] := fun e => h ((len_0 h4.2.1).mpr (by rw [e]; rfl))
    have hd := hW.2.2.2.2.2.2 h0
    have hr := e_ruleNow (x := 1) h3 h4 (by exact hd) h5 (Or.inr rfl)
    refine Wp.bnd (hr.mono ?_)
    rintro ⟨v, N'⟩ ⟨hv, hvol, hcv⟩
    have hv : v = valS L.2.2.2 (N.1 (t + 10) 0) (N.1 (t + 10) 1) (N.1 (t + 10) 2) (N.1 (t + 10) 3) := hv
    refine Wp.br (fun g => ?_) (fun g => ?_)
    · refine Wp.gp (Or.inr rfl) (Wp.ret ⟨?_, hvol, hcv⟩)
      have hf : lstF L (N.1 (t + 10) 0) (N.1 (t + 10) 1) (N.1 (t + 10) 2) (N.1 (t + 10) 3) = 1 := by
        unfold lstF
        rw [if_neg h0, if_neg (by rw [← hv]; exact nle_lt.mpr g)]
      rw [hf]
      rfl
    · refine tl N' hvol hcv _ ?_
      unfold lstF
      rw [if_neg h0, if_pos (by rw [← hv]; exact nlt_le.mp g)]
theorem m_lost {t : Nat} {N : Mem} {L : LN} (hW : LWf L) (hE : EnvM t N L) : Wp (f_X11_isLost t N) (fun q => ∃ l, l = lostR (lstF L (N.1 (t + 10) 0) (N.1 (t + 10) 1) (N.1 (t + 10) 2) (N.1 (t + 10) 3)) (N.1 t 29) (N.1 t 30) (N.1 (t + 8)) ∧ q.1 = l.1 ∧ q.2.1 (t + 8) = l.2.2 ∧ q.2.1 t 29 = l.2.1 ∧ VM t N q.2 ∧ CVm t q.2 L.2.2.1 L.2.2.2) := by
  unfold f_X11_isLost
  refine Wp.j1 ?_
  refine Wp.br (fun h => ?_) (fun h => ?_)
  · refine Wp.br (fun h2 => ?_) (fun h2 => ?_)
    · refine (m_fin hW hE).mono ?_
      rintro ⟨v, N'⟩ ⟨q1, q2, q3⟩
      refine ⟨_, rfl, ?_⟩
      unfold lostR
      rw [if_pos h, if_pos h2]
      exact ⟨q1, funext fun j => q2.1 _ _ (by omega), q2.1 _ _ (by omega), q2.vm, q3⟩
    · refine Wp.nam (Wp.ret ⟨_, rfl, ?_⟩)
      unfold lostR
      rw [if_pos h, if_neg h2]
      exact ⟨rfl, wi_rr, by rw [wi_rwo (by omega)], VM.rf.wi8, hE.2.2.2.2.cg (wi_rwo (by omega)) (wi_rwo (by omega)) (wi_rwo (by omega))⟩
  · refine Wp.nam ?_
    refine Wp.cl (e_isOf _ _ _) ?_
    rw [wi_hit, wi_sl (show ¬ 30 = 29 by decide)]
    have hv : VM t N (wi N t 29 (N.1 t 29 - 1)) := VM.rf.wi29
    have hc : CVm t (wi N t 29 (N.1 t 29 - 1)) L.2.2.1 L.2.2.2 := hE.2.2.2.2.cg (wi_rwo (by omega)) (wi_rwo (by omega)) (wi_rwo (by omega))
    have e8 : (wi N t 29 (N.1 t 29 - 1)).1 (t + 8) = N.1 (t + 8) := wi_rwo (by omega)
    have e10 : (wi N t 29 (N.1 t 29 - 1)).1 (t + 10) = N.1 (t + 10) := wi_rwo (by omega)
    have e29 : (wi N t 29 (N.1 t 29 - 1)).1 t 29 = N.1 t 29 - 1 := wi_hit
    by_cases g : ((N.1 t 30 >>> ((N.1 t 29 - 1) &&& 31)) &&& 1) = 1
    · rw [if_pos g]
      refine Wp.ng (by decide) (Wp.ret ⟨_, rfl, ?_⟩)
      unfold lostR
      rw [if_neg h, if_pos g]
      exact ⟨rfl, e8, e29, hv, hc⟩
    · rw [if_neg g]
      refine Wp.ps rfl ?_
      refine (m_fin hW (hE.vm hv hc)).mono ?_
      rintro ⟨v, N'⟩ ⟨q1, q2, q3⟩
      refine ⟨_, rfl, ?_⟩
      unfold lostR
      rw [if_neg h, if_neg g]
      rw [e10, e8] at q1
      exact ⟨q1, (funext fun j => q2.1 _ _ (by omega)).trans e8, (q2.1 _ _ (by omega)).trans e29, hv.tr q2.vm, q3⟩
def addR (d : Int32) (r : Nat → Int32) : Nat → Int32 :=
  let r1 := rup r ((33 : Int32) + 3 * r 31).toNatClampNeg (r 2)
  let r2 := rup r1 ((33 : Int32) + 3 * r 31 + 1).toNatClampNeg ((r1 0 + d) + r1 26)
  let r3 := rup r2 ((33 : Int32) + 3 * r 31 + 2).toNatClampNeg (r2 0 &&& 255)
  rup r3 31 (r3 31 + 1)
def sendR (L : LN) (sl s : Int32) (r : Nat → Int32) : (Nat → Int32) × Int32 :=
  let d := delV L (r 2) (r 0) (r 24) (r 31)
  let q := lostR (lstF L (r 2) (r 0) (r 24) (r 31)) s sl r
  let r2 := if q.1 = 0 then addR d q.2.2 else rup q.2.2 3 (q.2.2 3 + 1)
  (rup (rup r2 24 d) 2 (rup r2 24 d 2 + 1), q.2.1)
theorem lost_31 {f s sl : Int32} {r : Nat → Int32} {j : Nat} (hj : ¬ j = 25) : (lostR f s sl r).2.2 j = r j := by
  unfold lostR
  split
  · split
    · rfl
    · exact rup_o hj
  · split <;> rfl
theorem lost_40 {f s sl : Int32} {r : Nat → Int32} (h : (lostR f s sl r).1 = 0) : ¬ r 31 = 40 := by
  intro e
  revert h
  unfold lostR finR
  rw [if_pos e]
  split
  · split
    · split
      · show (1 : Int32) = 0 → False
        decide
      · show (1 : Int32) = 0 → False
        decide
    · show (1 : Int32) = 0 → False
      decide
  · split
    · show (1 : Int32) = 0 → False
      decide
    · split
      · show (1 : Int32) = 0 → False
        decide
      · show (1 : Int32) = 0 → False
        decide
theorem m_send {t : Nat} {N : Mem} {L : LN} (hW : LWf L) (hE : EnvM t N L) (h31 : 0 ≤ (N.1 (t + 8) 31).toInt ∧ (N.1 (t + 8) 31).toInt ≤ 40) : Wp (f_X11_send t N) (fun q => ∃ l, l = sendR L (N.1 t 30) (N.1 t 29) (N.1 (t + 8)) ∧ q.2.1 (t + 8) = l.1 ∧ q.2.1 t 29 = l.2 ∧ VM t N q.2 ∧ CVm t q.2 L.2.2.1 L.2.2.2) := by
  generalize hr : N.1 (t + 8) = r at h31
  unfold f_X11_send
  refine Wp.nam (Wp.nam (Wp.nam (Wp.nam ?_)))
  generalize hN4 : wi (wi (wi (wi N (t + 10) 0 (N.1 (t + 8) 2)) (t + 10) 1 ((wi N (t + 10) 0 (N.1 (t + 8) 2)).1 (t + 8) 0)) (t + 10) 2 ((wi (wi N (t + 10) 0 (N.1 (t + 8) 2)) (t + 10) 1 ((wi N (t + 10) 0 (N.1 (t + 8) 2)).1 (t + 8) 0)).1 (t + 8) 24)) (t + 10) 3 ((wi (wi (wi N (t + 10) 0 (N.1 (t + 8) 2)) (t + 10) 1 ((wi N (t + 10) 0 (N.1 (t + 8) 2)).1 (t + 8) 0)) (t + 10) 2 ((wi (wi N (t + 10) 0 (N.1 (t + 8) 2)) (t + 10) 1 ((wi N (t + 10) 0 (N.1 (t + 8) 2)).1 (t + 8) 0)).1 (t + 8) 24)).1 (t + 8) 31) = N4
  have n8 : ¬ t + 8 = t + 10 := by omega
  have hv4 : VM t N N4 := by subst hN4; exact VM.rf.wi10.wi10.wi10.wi10
  have e8 : N4.1 (t + 8) = r := by subst hN4; rw [wi_rwo n8, wi_rwo n8, wi_rwo n8, wi_rwo n8, hr]
  have e29 : N4.1 t 29 = N.1 t 29 := by subst hN4; rw [wi_rwo (by omega), wi_rwo (by omega), wi_rwo (by omega), wi_rwo (by omega)]
  have e30 : N4.1 t 30 = N.1 t 30 := by subst hN4; rw [wi_rwo (by omega), wi_rwo (by omega), wi_rwo (by omega), wi_rwo (by omega)]
  have a3 : N4.1 (t + 10) 3 = r 31 := by subst hN4; rw [wi_hit, wi_rwo n8, wi_rwo n8, wi_rwo n8, hr]
  have a2 : N4.1 (t + 10) 2 = r 24 := by subst hN4; rw [wi_sl (by decide), wi_hit, wi_rwo n8, wi_rwo n8, hr]
  have a1 : N4.1 (t + 10) 1 = r 0 := by subst hN4; rw [wi_sl (by decide), wi_sl (by decide), wi_hit, wi_rwo n8, hr]
  have a0 : N4.1 (t + 10) 0 = r 2 := by subst hN4; rw [wi_sl (by decide), wi_sl (by decide), wi_sl (by decide), wi_hit, hr]
  have hc4 : CVm t N4 L.2.2.1 L.2.2.2 := by
    subst hN4
    exact hE.2.2.2.2.cg (by rw [wi_rwo (by omega), wi_rwo (by omega), wi_rwo (by omega), wi_rwo (by omega)]) (by rw [wi_rwo (by omega), wi_rwo (by omega), wi_rwo (by omega), wi_rwo (by omega)]) (by rw [wi_rwo (by omega), wi_rwo (by omega), wi_rwo (by omega), wi_rwo (by omega)])
  have hE4 := hE.vm hv4 hc4
  clear hN4
  refine Wp.j2 ?_
  have tl : ∀ (N6 : Mem) (z5 : Int32), z5 = delV L (r 2) (r 0) (r 24) (r 31) → Vol t N4 N6 → CVm t N6 L.2.2.1 L.2.2.2 → Wp (bd (f_X11_isLost t N6) (fun u7 M8 => jn1 (fun M9 => nm (wi M9 (t + 8) 24 z5) (fun M10 => nm (wi M10 (t + 8) 2 ((M10.1 (t + 8) 2) + (1 : Int32))) (fun M11 => some ((), M11)))) (fun J174 => if u7 = 0 then (nm ((33 : Int32) + ((3 : Int32) * (M8.1 (t + 8) 31))) (fun y12 => gdi y12 665 (nm (wi M8 (t + 8) y12.toNatClampNeg (M8.1 (t + 8) 2)) (fun M13 => gdi (y12 + (1 : Int32)) 665 (nm (wi M13 (t + 8) (y12 + (1 : Int32)).toNatClampNeg (((M13.1 (t + 8) 0) + z5) + (M13.1 (t + 8) 26))) (fun M14 => gdi (y12 + (2 : Int32)) 665 (nm (wi M14 (t + 8) (y12 + (2 : Int32)).toNatClampNeg ((M14.1 (t + 8) 0) &&& (255 : Int32))) (fun M15 => nm (wi M15 (t + 8) 31 ((M15.1 (t + 8) 31) + (1 : Int32))) (fun M16 => J174 M16))))))))) else (nm (wi M8 (t + 8) 3 ((M8.1 (t + 8) 3) + (1 : Int32))) (fun M17 => J174 M17)))))
      (fun q => ∃ l, l = sendR L (N.1 t 30) (N.1 t 29) r ∧ q.2.1 (t + 8) = l.1 ∧ q.2.1 t 29 = l.2 ∧ VM t N q.2 ∧ CVm t q.2 L.2.2.1 L.2.2.2) := by
    intro N6 z5 hz5 hv6 hc6
    have x8 : N6.1 (t + 8) = r := (funext fun j => hv6.1 _ _ (by omega)).trans e8
    have x29 : N6.1 t 29 = N.1 t 29 := (hv6.1 _ _ (by omega)).trans e29
    have x30 : N6.1 t 30 = N.1 t 30 := (hv6.1 _ _ (by omega)).trans e30
    have x10 : ∀ j, N6.1 (t + 10) j = N4.1 (t + 10) j := fun j => hv6.1 _ _ (by omega)
    refine Wp.bnd ((m_lost hW (hE4.vm hv6.vm hc6)).mono ?_)
    rintro ⟨u7, N8⟩ ⟨l, hl, q1, q2, q3, q4, q5⟩
    rw [x10, x10, x10, x10, a0, a1, a2, a3, x29, x30, x8] at hl
    replace q1 : u7 = l.1 := q1
    replace q2 : N8.1 (t + 8) = l.2.2 := q2
    replace q3 : N8.1 t 29 = l.2.1 := q3
    have vv : VM t N N8 := (hv4.tr hv6.vm).tr q4
    show Wp (jn1 _ _) _
    refine Wp.j1 ?_
    have hN8 : N8 = rset N8 (t + 8) l.2.2 := by rw [← q2, rset_get]
    have l31 : l.2.2 31 = r 31 := by rw [hl]; exact lost_31 (by decide)
    have fin : ∀ r2 : Nat → Int32, r2 = (if l.1 = 0 then addR z5 l.2.2 else rup l.2.2 3 (l.2.2 3 + 1)) → Wp (nm (wi (rset N8 (t + 8) r2) (t + 8) 24 z5) (fun M10 => nm (wi M10 (t + 8) 2 ((M10.1 (t + 8) 2) + (1 : Int32))) (fun M11 => some ((), M11)))) (fun q => ∃ l, l = sendR L (N.1 t 30) (N.1 t 29) r ∧ q.2.1 (t + 8) = l.1 ∧ q.2.1 t 29 = l.2 ∧ VM t N q.2 ∧ CVm t q.2 L.2.2.1 L.2.2.2) := by
      intro r2 hr2
      refine Wp.nam (Wp.nam (Wp.ret ⟨_, rfl, ?_⟩))
      rw [wi_rset, wi_rset, rset_rd]
      have hs : sendR L (N.1 t 30) (N.1 t 29) r = (rup (rup r2 24 z5) 2 (rup r2 24 z5 2 + 1), l.2.1) := by
        unfold sendR
        rw [← hz5, ← hl, hr2]
      rw [hs]
      exact ⟨rset_rf, by rw [rset_ne (show ¬ t = t + 8 by omega)]; exact q3, vv.rs8, q5.cg (rset_nf (by omega)) (rset_nf (by omega)) (rset_nf (by omega))⟩
    refine Wp.br (fun h => ?_) (fun h => ?_)
    · have h0 : l.1 = 0 := by rw [← q1]; exact h
      have n40 : ¬ (r 31).toInt = 40 := fun e => lost_40 (by rw [← hl]; exact h0) (Int32.toInt_inj.mp e)
      rw [q2, l31]
      have e3 : (3 : Int32).toInt = 3 := rfl
      have e33 : (33 : Int32).toInt = 33 := rfl
      have e1 : (1 : Int32).toInt = 1 := rfl
      have e2 : (2 : Int32).toInt = 2 := rfl
      have y0 : ((33 : Int32) + 3 * r 31).toInt = 33 + 3 * (r 31).toInt := by
        have y9 : ((3 : Int32) * r 31).toInt = 3 * (r 31).toInt := by
          rw [ti_mul (by rw [e3]; omega) (by rw [e3]; omega), e3]
        rw [ti_add (by omega) (by omega), y9, e33]
      have y1 : ((33 : Int32) + 3 * r 31 + 1).toInt = 34 + 3 * (r 31).toInt := by
        rw [ti_add (by omega) (by omega), y0, e1]; omega
      have y2 : ((33 : Int32) + 3 * r 31 + 2).toInt = 35 + 3 * (r 31).toInt := by
        rw [ti_add (by omega) (by omega), y0, e2]; omega
      refine Wp.nam ?_
      refine Wp.gi (by rw [y0]; omega) ?_
      refine Wp.nam ?_
      refine Wp.gi (by rw [y1]; omega) ?_
      refine Wp.nam ?_
      refine Wp.gi (by rw [y2]; omega) ?_
      refine Wp.nam (Wp.nam ?_)
      rw [hN8, wi_rset, wi_rset, wi_rset, wi_rset]
      refine fin _ ?_
      rw [if_pos h0]
      unfold addR
      simp only [rset_rd, l31]
    · have h0 : ¬ l.1 = 0 := by rw [← q1]; exact h
      refine Wp.nam ?_
      rw [hN8, wi_rset, rset_rd]
      refine fin _ ?_
      rw [if_neg h0]
  rw [hE4.2.2.1.1]
  refine Wp.br (fun h => ?_) (fun h => ?_)
  · have h0 : L.2.2.1 = [] := List.eq_nil_of_length_eq_zero ((len_0 hE4.2.2.1.2.1).mp (by rw [h]; decide))
    exact tl N4 3 (by unfold delV; rw [if_pos h0]) Vol.rf hc4
  · have h0 : ¬ L.2.2.1 = [] := fun e => h (by rw [e]; rfl)
    have hd := hW.2.2.2.2.2.1 h0
    have hrn := e_ruleNow (x := 0) hE4.2.2.1 hE4.2.2.2.1 (by exact hd) hc4 (Or.inl rfl)
    refine Wp.bnd (hrn.mono ?_)
    rintro ⟨v, N'⟩ ⟨hv, hvol, hcv⟩
    have hv : v = valS L.2.2.1 (N4.1 (t + 10) 0) (N4.1 (t + 10) 1) (N4.1 (t + 10) 2) (N4.1 (t + 10) 3) := hv
    refine Wp.cl (e_mwithin _ _ _ _) ?_
    refine tl N' _ ?_ hvol hcv
    unfold delV
    rw [if_neg h0]
    rw [a0, a1, a2, a3] at hv
    show imax 0 (imin 60 v) = _
    rw [hv]
