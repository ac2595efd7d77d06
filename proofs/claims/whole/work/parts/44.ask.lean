/-! Questions: what holds behind them; then, when. -/
def FrC (x : Nat) (M M' : Mem) : Prop := (∀ b k, ¬ (x ≤ b ∧ b < x + 95) → M'.1 b k = M.1 b k) ∧ M'.2.1 = M.2.1
def FrM (x : Nat) (N N' : Mem) : Prop := (∀ b k, ¬ (x + 95 ≤ b ∧ b < x + 122) → N'.1 b k = N.1 b k) ∧ N'.2 = N.2
theorem FQ.fr {x : Nat} {M M' : Mem} (h : FQ x M M') : FrC x M M' := ⟨fun b k hb => h.1 b k (by omega), by rw [h.2]⟩
theorem GQ.fr {x : Nat} {M M' : Mem} (h : GQ x M M') : FrM x M M' := ⟨fun b k hb => h.1 b k (by omega), h.2⟩
theorem FrC.rf {x : Nat} {M : Mem} : FrC x M M := ⟨fun _ _ _ => rfl, rfl⟩
theorem FrM.rf {x : Nat} {M : Mem} : FrM x M M := ⟨fun _ _ _ => rfl, rfl⟩
def CallT (x : Nat) (κ : Nat → Int32) (M N : Mem) (fc : Option ((Int32 ⊕ Nat) × Mem)) (fm : Option (Int32 × Mem)) : Prop := ∃ r M' v N' L', fc = some (r, M') ∧ fm = some (v, N') ∧ Inv2 x L' M' N' ∧ FrC x M M' ∧ FrM x N N' ∧ ((r = .inl v ∧ N'.1 (x + 95) 2 = 0) ∨ (∃ e, r = .inr e ∧ N'.1 (x + 95) 2 = κ e ∧ ¬ κ e = 0))
def CallV (x : Nat) (M N : Mem) (fc fm : Option (Int32 × Mem)) : Prop := ∃ v M' N' L', fc = some (v, M') ∧ fm = some (v, N') ∧ Inv2 x L' M' N' ∧ FrC x M M' ∧ FrM x N N'
def Rdy (x : Nat) (L : LN) (M N0 N : Mem) : Prop := f_X11_ready (x + 95) N0 = some ((), N) ∧ Inv2 x L M N ∧ N.1 (x + 95) 2 = 0
theorem e_fail {t : Nat} {k : Int32} {N : Mem} : f_X11_fail t k N = some (0, wi N t 2 k) := rfl
theorem GQ.code {x : Nat} {k : Int32} {N : Mem} : GQ x N (wi N (x + 95) 2 k) := ⟨fun b j hb => by
  have : ¬ (b = x + 95 ∧ j = 2) := fun e => hb (by omega)
  simp only [wi, if_neg this], rfl⟩
theorem Inv2.fail {x : Nat} {k : Int32} {L : LN} {M N : Mem} (h : Inv2 x L M N) : Inv2 x L M (wi N (x + 95) 2 k) := h.q FQ.rf GQ.code (h.2.2.2.1.2.2.2.2.cg (wi_rwo (by omega)) (wi_rwo (by omega)) (wi_rwo (by omega)))
theorem lgc {a b : Int64} : (lg_cmp a b < 0 ↔ a.toInt < b.toInt) ∧ (0 < lg_cmp a b ↔ b.toInt < a.toInt) ∧ (lg_cmp a b = 0 ↔ a = b) := by
  unfold lg_cmp
  by_cases h1 : a > b
  · have h2 := Int64.lt_iff_toInt_lt.mp h1
    rw [if_pos h1]
    refine ⟨⟨fun h => absurd h (by decide), fun h => by omega⟩, ⟨fun _ => h2, fun _ => by decide⟩, ⟨fun h => absurd h (by decide), fun h => by rw [h] at h2; omega⟩⟩
  · have h2 : ¬ b.toInt < a.toInt := fun h => h1 (Int64.lt_iff_toInt_lt.mpr h)
    rw [if_neg h1]
    by_cases h3 : a = b
    · rw [if_pos h3]
      refine ⟨⟨fun h => absurd h (by decide), fun h => by rw [h3] at h; omega⟩, ⟨fun h => absurd h (by decide), fun h => absurd h h2⟩, ⟨fun _ => h3, fun _ => rfl⟩⟩
    · have h4 : ¬ a.toInt = b.toInt := fun h => h3 (Int64.toInt_inj.mp h)
      rw [if_neg h3]
      refine ⟨⟨fun _ => by omega, fun _ => by decide⟩, ⟨fun h => absurd h (by decide), fun h => absurd h h2⟩, ⟨fun h => absurd h (by decide), fun h => absurd h h3⟩⟩
theorem e_in1 {v : Int32} {q r : Int64} {M : Mem} (h : q.toInt ≤ v.toInt ∧ v.toInt ≤ r.toInt) : f_X11_isIn v.toInt64 q r M = some (1, M) := by
  refine Wp.eq ?_
  unfold f_X11_isIn
  refine Wp.j1 (Wp.j0 ?_)
  refine Wp.ng (fun g => by have := lgc.1.mp g; rw [Int32.toInt_toInt64] at this; omega) ?_
  refine Wp.ng (fun g => by have := lgc.2.1.mp g; rw [Int32.toInt_toInt64] at this; omega) ?_
  exact Wp.gp (Or.inr rfl) (Wp.ret rfl)
theorem e_in0 {v : Int32} {q r : Int64} {M : Mem} (h : ¬ (q.toInt ≤ v.toInt ∧ v.toInt ≤ r.toInt)) : f_X11_isIn v.toInt64 q r M = some (0, M) := by
  refine Wp.eq ?_
  unfold f_X11_isIn
  refine Wp.j1 (Wp.j0 ?_)
  refine Wp.br (fun _ => Wp.gp (Or.inl rfl) (Wp.ret rfl)) (fun g => ?_)
  refine Wp.ps (lgc.2.1.mpr ?_) (Wp.gp (Or.inl rfl) (Wp.ret rfl))
  have h1 : ¬ v.toInt64.toInt < q.toInt := fun a => g (lgc.1.mpr a)
  rw [Int32.toInt_toInt64] at h1 ⊢
  omega
theorem nlt_of {a b : Int32} (h : b.toInt ≤ a.toInt) : ¬ a < b := fun g => by have := Int32.lt_iff_toInt_lt.mp g; omega
theorem lt_of {a b : Int32} (h : a.toInt < b.toInt) : a < b := Int32.lt_iff_toInt_lt.mpr h
theorem nle_of {a b : Int32} (h : b.toInt < a.toInt) : ¬ a ≤ b := fun g => by have := Int32.le_iff_toInt_le.mp g; omega
theorem le_of {a b : Int32} (h : a.toInt ≤ b.toInt) : a ≤ b := Int32.le_iff_toInt_le.mpr h
/-- a question has ended -/
def Fin (x : Nat) (L : LN) (M N M2 N2 : Mem) : Prop := Inv2 x L M2 N2 ∧ FQ x M M2 ∧ GQ x N N2 ∧ N2.1 (x + 95) 2 = N.1 (x + 95) 2
theorem QR.fin {x : Nat} {L : LN} {M N M1 M2 N1 : Mem} {T : Int} (h : QR x L (L.1 2) (L.1 3) M N T M1 N1) (h0 : Inv2 x L M N) (hs : N1.1 (x + 95) 29 = 0) (hf : FQ x M M2) : Fin x L M N M2 (rcp N1 (x + 95 + 16) (x + 95 + 8) 665) := by
  obtain ⟨b1, b2, b3, b4⟩ := h.back (v := 0)
  have hq : GQ x N (rcp N1 (x + 95 + 16) (x + 95 + 8) 665) := b2.gq b3 (by rw [rcp_ne (by omega), h.2.2.2.2.2.1, h0.2.2.2.2.1]) (by rw [rcp_ne (by omega), h.2.2.2.2.2.2.1, h0.2.2.2.2.2.1]) (by rw [rcp_ne (by omega), hs, h0.2.2.2.2.2.2.1])
  exact ⟨h0.q hf hq b4.2.2.2.2, hf, hq, b2.1 _ _ (by omega)⟩
theorem QR.bk {x : Nat} {L : LN} {p i v : Int32} {M N M1 N1 : Mem} {T : Int} (h : QR x L p i M N T M1 N1) : f_X11_back (x + 95) v N1 = some (v, rcp N1 (x + 95 + 16) (x + 95 + 8) 665) := (h.back (v := v)).1
theorem Fin.t {x : Nat} {κ : Nat → Int32} {L : LN} {M N M2 N2 : Mem} {v : Int32} {fc : Option ((Int32 ⊕ Nat) × Mem)} {fm : Option (Int32 × Mem)} (h : Fin x L M N M2 N2) (hc : N.1 (x + 95) 2 = 0) (e1 : fc = some (.inl v, M2)) (e2 : fm = some (v, N2)) : CallT x κ M N fc fm := ⟨_, _, _, _, L, e1, e2, h.1, h.2.1.fr, h.2.2.1.fr, Or.inl ⟨rfl, by rw [h.2.2.2, hc]⟩⟩
theorem CallT.err {x e : Nat} {κ : Nat → Int32} {L : LN} {M N : Mem} {fc : Option ((Int32 ⊕ Nat) × Mem)} {fm : Option (Int32 × Mem)} {k : Int32} (h : Inv2 x L M N) (e1 : fc = some (.inr e, M)) (e2 : fm = some (0, wi N (x + 95) 2 k)) (hk : k = κ e) (hk0 : ¬ k = 0 := by decide) : CallT x κ M N fc fm := ⟨_, _, _, _, L, e1, e2, h.fail, FrC.rf, GQ.code.fr, Or.inr ⟨e, rfl, by rw [wi_hit]; exact hk, by rw [← hk]; exact hk0⟩⟩
def κ2 (e : Nat) : Int32 := if e = 0 then 1 else if e = 1 then 2 else 0
def κ1 (e : Nat) : Int32 := if e = 1 then 1 else 0
def κ0 (e : Nat) : Int32 := if e = 0 then 1 else 0
theorem q0 : (0 : Int64).toInt = 0 := rfl
theorem Inv2.rw0 {x : Nat} {L : LN} {M N : Mem} (h : Inv2 x L M N) : ∃ T, 0 ≤ T ∧ T ≤ 20000 ∧ (∃ M1 N1, f_X9_copyFrom (x + 79 + 1) (x + 19 + 1) M = some ((), M1) ∧ f_X11_rememberNow (x + 95) N = some ((), N1) ∧ QR x L (L.1 2) (L.1 3) M N T M1 N1 ∧ N1.1 (x + 95) 29 = 0 ∧ (∀ b k, ¬ b = x + 95 + 16 → N1.1 b k = N.1 b k) ∧ (∀ b k, ¬ (x + 80 ≤ b ∧ b < x + 92) → M1.1 b k = M.1 b k)) := QR.begin h FQ.rf FQ.rf GR.rf h.2.2.2.1 (fun _ _ => rfl) h.2.2.2.2.1 h.2.2.2.2.2.1 h.2.2.2.2.2.2.1
theorem rdw {M : Mem} {w d k : Nat} : M.1 (w + d) k = getW M w d k := rfl
theorem call_then {x : Nat} {L : LN} {M N0 N : Mem} {n what : Int32} (h : Rdy x L M N0 N) : CallT x κ2 M N (f_X10_then x n what M) (f_X11_then (x + 95) n what N0) := by
  obtain ⟨hr, hI, hc0⟩ := h
  have ha := hI.at
  have hW := hI.1
  have e5 : (5 : Int32).toInt = 5 := rfl
  have e400 : (400 : Int32).toInt = 400 := rfl
  have e0 : (0 : Int32).toInt = 0 := rfl
  have l5 : (5 : Int64).toInt = 5 := rfl
  have l400 : (400 : Int64).toInt = 400 := rfl
  by_cases hw : 0 ≤ what.toInt ∧ what.toInt ≤ 5
  · by_cases hn : 0 ≤ n.toInt ∧ n.toInt ≤ 400
    · obtain ⟨T, t0, t1, M1, N1, c1, c2, q, s0, fN, fM⟩ := hI.rw0
      have hnn : n = Int32.ofNat n.toInt.toNat := nat_of hn.1
      obtain ⟨M2, N2, g1, g2, q2, s2, fM2, vm2⟩ := q.go hW ha (k := n.toInt.toNat) (by omega) ⟨t0, by omega⟩
      rw [← hnn] at g1 g2
      obtain ⟨lv1, lv2⟩ := q2.level hW ha ⟨by omega, by omega⟩
      have hS := q2.core.1
      have hfin := q2.fin hI (s2 s0) q2.1
      generalize hv : (if what = 0 then levR (L.1 0) (N2.1 (x + 95 + 8)) else if what = 1 then N2.1 (x + 95 + 8) 9 else if what = 2 then N2.1 (x + 95 + 8) 8 else if what = 3 then N2.1 (x + 95 + 8) 6 else if what = 4 then N2.1 (x + 95 + 8) 7 else N2.1 (x + 95 + 8) 4) = v
      have wc : what = 0 ∨ what = 1 ∨ what = 2 ∨ what = 3 ∨ what = 4 ∨ what = 5 := by
        have h3 : what.toInt = 0 ∨ what.toInt = 1 ∨ what.toInt = 2 ∨ what.toInt = 3 ∨ what.toInt = 4 ∨ what.toInt = 5 := by omega
        rcases h3 with h | h | h | h | h | h
        · exact Or.inl (Int32.toInt_inj.mp h)
        · exact Or.inr (Or.inl (Int32.toInt_inj.mp h))
        · exact Or.inr (Or.inr (Or.inl (Int32.toInt_inj.mp h)))
        · exact Or.inr (Or.inr (Or.inr (Or.inl (Int32.toInt_inj.mp h))))
        · exact Or.inr (Or.inr (Or.inr (Or.inr (Or.inl (Int32.toInt_inj.mp h)))))
        · exact Or.inr (Or.inr (Or.inr (Or.inr (Or.inr (Int32.toInt_inj.mp h)))))
      have hbeh : f_X2_behind (x + 79) (x + 19 + 1) (M.2.2 0) n what M = some (v, M2) := by
        refine Wp.eq ?_
        unfold f_X2_behind
        refine Wp.cl c1 ?_
        refine Wp.cl g1 ?_
        rcases wc with w | w | w | w | w | w <;> subst w
        · refine Wp.ng (by decide) (Wp.ps rfl (Wp.cl lv1 (Wp.ret ?_)))
          rw [← hv]; rfl
        · refine Wp.ng (by decide) (Wp.ng (by decide) (Wp.ps rfl (Wp.ret ?_)))
          rw [← hv, ← hS.g9]; rfl
        · refine Wp.ng (by decide) (Wp.ng (by decide) (Wp.ng (by decide) (Wp.ps rfl (Wp.ret ?_))))
          rw [← hv, ← hS.g8]; rfl
        · refine Wp.ng (by decide) (Wp.ng (by decide) (Wp.ng (by decide) (Wp.ng (by decide) (Wp.ps rfl (Wp.ret ?_)))))
          rw [← hv, ← hS.g6]; rfl
        · refine Wp.ng (by decide) (Wp.ng (by decide) (Wp.ng (by decide) (Wp.ng (by decide) (Wp.ng (by decide) (Wp.ps rfl (Wp.ret ?_))))))
          rw [← hv, ← hS.g7]; rfl
        · refine Wp.ps (by decide) (Wp.ret ?_)
          rw [← hv, ← hS.g4]; rfl
      refine hfin.t (v := v) hc0 ?_ ?_
      · refine Wp.eq ?_
        unfold f_X10_then
        refine Wp.j0 (Wp.ng (nlt_of (by rw [e0]; omega)) (Wp.ps (le_of (by rw [e5]; omega)) ?_))
        refine Wp.j0 (Wp.ng (nlt_of (by rw [e0]; omega)) (Wp.ps (le_of (by rw [e400]; omega)) ?_))
        refine Wp.gp ha ?_
        refine Wp.cl hbeh (Wp.ret rfl)
      · refine Wp.eq ?_
        unfold f_X11_then
        refine Wp.cl hr ?_
        refine Wp.cl (e_in1 (by rw [q0, l5]; omega)) (Wp.ng (by decide) ?_)
        refine Wp.cl (e_in1 (by rw [q0, l400]; omega)) (Wp.ng (by decide) ?_)
        refine Wp.cl c2 (Wp.cl g2 (Wp.j2 ?_))
        rcases wc with w | w | w | w | w | w <;> subst w
        · refine Wp.ps rfl (Wp.cl lv2 (Wp.cl q2.bk (Wp.ret ?_)))
          rw [← hv]; rfl
        · refine Wp.ng (by decide) (Wp.j1 (Wp.ps rfl (Wp.gi (by decide) (Wp.cl q2.bk (Wp.ret ?_)))))
          rw [← hv]; rfl
        · refine Wp.ng (by decide) (Wp.j1 (Wp.ng (by decide) (Wp.ps rfl (Wp.gi (by decide) (Wp.cl q2.bk (Wp.ret ?_))))))
          rw [← hv]; rfl
        · refine Wp.ng (by decide) (Wp.j1 (Wp.ng (by decide) (Wp.ng (by decide) (Wp.ps rfl (Wp.gi (by decide) (Wp.cl q2.bk (Wp.ret ?_)))))))
          rw [← hv]; rfl
        · refine Wp.ng (by decide) (Wp.j1 (Wp.ng (by decide) (Wp.ng (by decide) (Wp.ng (by decide) (Wp.ps rfl (Wp.gi (by decide) (Wp.cl q2.bk (Wp.ret ?_))))))))
          rw [← hv]; rfl
        · refine Wp.ng (by decide) (Wp.j1 (Wp.ng (by decide) (Wp.ng (by decide) (Wp.ng (by decide) (Wp.ng (by decide) (Wp.gi (by decide) (Wp.cl q2.bk (Wp.ret ?_))))))))
          rw [← hv]; rfl
    · refine CallT.err (e := 1) (k := 2) hI ?_ ?_ rfl
      · refine Wp.eq ?_
        unfold f_X10_then
        refine Wp.j0 (Wp.ng (nlt_of (by rw [e0]; omega)) (Wp.ps (le_of (by rw [e5]; omega)) ?_))
        refine Wp.j0 (Wp.br (fun _ => Wp.ret rfl) (fun g => Wp.ng (nle_of ?_) (Wp.ret rfl)))
        have := Int32.le_iff_toInt_le.mp (nlt_le.mp g)
        rw [e0] at this
        rw [e400]
        omega
      · refine Wp.eq ?_
        unfold f_X11_then
        refine Wp.cl hr ?_
        refine Wp.cl (e_in1 (by rw [q0, l5]; omega)) (Wp.ng (by decide) ?_)
        refine Wp.cl (e_in0 (by rw [q0, l400]; omega)) (Wp.ps rfl ?_)
        exact Wp.cl e_fail (Wp.ret rfl)
  · refine CallT.err (e := 0) (k := 1) hI ?_ ?_ rfl
    · refine Wp.eq ?_
      unfold f_X10_then
      refine Wp.j0 (Wp.br (fun _ => Wp.ret rfl) (fun g => Wp.ng (nle_of ?_) (Wp.ret rfl)))
      have := Int32.le_iff_toInt_le.mp (nlt_le.mp g)
      rw [e0] at this
      rw [e5]
      omega
    · refine Wp.eq ?_
      unfold f_X11_then
      refine Wp.cl hr ?_
      refine Wp.cl (e_in0 (by rw [q0, l5]; omega)) (Wp.ps rfl ?_)
      exact Wp.cl e_fail (Wp.ret rfl)
/-! when -/
theorem i400 {k : Nat} (hk : k ≤ 400) : ¬ (400 : Int32) < Int32.ofNat k := fun g => by
  have g2 : Int32.ofNat 400 < Int32.ofNat k := g
  have := (i_lt (by omega) (by omega)).mp g2
  omega
theorem when0_loop {x : Nat} {L : LN} {M N : Mem} {T : Int} (hI : Inv2 x L M N) (hT : 0 ≤ T ∧ T ≤ 20000) : ∀ (n k fc fm : Nat) (M1 N1 : Mem), k + n = 401 → n < fc → n < fm → QR x L (L.1 2) (L.1 3) M N (T + k) M1 N1 → N1.1 (x + 95) 29 = 0 → ∃ v M2 N2, lop2 fc (l_X2_firstPlaying_10 (x + 79) (M.2.2 0)) (Int32.ofNat k) M1 = some (v, M2) ∧ lop2 fm (l_X11_when_28 (x + 95) 0) (Int32.ofNat k) N1 = some (v, N2) ∧ Fin x L M N M2 N2 := by
  intro n
  induction n with
  | zero =>
    intro k fc fm M1 N1 hk hc hm q hs
    obtain ⟨fc, rfl⟩ : ∃ q, fc = q + 1 := ⟨fc - 1, by omega⟩
    obtain ⟨fm, rfl⟩ : ∃ q, fm = q + 1 := ⟨fm - 1, by omega⟩
    obtain rfl : k = 401 := by omega
    refine ⟨-1, M1, _, lop2_inr (Wp.eq ?_), lop2_inr (Wp.eq ?_), q.fin hI hs q.1⟩
    · unfold l_X2_firstPlaying_10
      exact Wp.ps (by decide) (Wp.ret rfl)
    · unfold l_X11_when_28
      exact Wp.ps (by decide) (Wp.cl q.bk (Wp.ret rfl))
  | succ n ih =>
    intro k fc fm M1 N1 hk hc hm q hs
    obtain ⟨fc, rfl⟩ : ∃ q, fc = q + 1 := ⟨fc - 1, by omega⟩
    obtain ⟨fm, rfl⟩ : ∃ q, fm = q + 1 := ⟨fm - 1, by omega⟩
    have hst : M1.1 (x + 79 + 1 + 5) 0 = N1.1 (x + 95 + 8) 8 := q.core.1.g8
    have once : f_X11_isOnce (x + 95) 0 N1 = some (if N1.1 (x + 95 + 8) 8 = 2 then 1 else 0, N1) := by
      refine Wp.eq ?_
      unfold f_X11_isOnce
      refine Wp.ps rfl (Wp.j1 (Wp.br (fun g => Wp.gp (Or.inr rfl) (Wp.ret ?_)) (fun g => Wp.gp (Or.inl rfl) (Wp.ret ?_))))
      · rw [if_pos g]
      · rw [if_neg g]
    by_cases g : N1.1 (x + 95 + 8) 8 = 2
    · refine ⟨Int32.ofNat k, M1, _, lop2_inr (Wp.eq ?_), lop2_inr (Wp.eq ?_), q.fin hI hs q.1⟩
      · unfold l_X2_firstPlaying_10
        exact Wp.ng (i400 (by omega)) (Wp.ps (by rw [hst]; exact g) (Wp.ret rfl))
      · unfold l_X11_when_28
        refine Wp.ng (i400 (by omega)) (Wp.cl once ?_)
        rw [if_pos g]
        exact Wp.ng (by decide) (Wp.cl q.bk (Wp.ret rfl))
    · obtain ⟨M2, N2, e1, e2, q2, s2, _, _, _⟩ := q.step hI.1 hI.at ⟨by omega, by omega⟩
      have b1 : l_X2_firstPlaying_10 (x + 79) (M.2.2 0) (Int32.ofNat k) M1 = some (.inl (Int32.ofNat (k + 1), M2)) := by
        refine Wp.eq ?_
        unfold l_X2_firstPlaying_10
        refine Wp.ng (i400 (by omega)) (Wp.ng (by rw [hst]; exact g) (Wp.cl e1 (Wp.nam ?_)))
        rw [i_ad1]
        exact Wp.ret rfl
      have b2 : l_X11_when_28 (x + 95) 0 (Int32.ofNat k) N1 = some (.inl (Int32.ofNat (k + 1), N2)) := by
        refine Wp.eq ?_
        unfold l_X11_when_28
        refine Wp.ng (i400 (by omega)) (Wp.cl once ?_)
        rw [if_neg g]
        refine Wp.ps rfl (Wp.cl e2 (Wp.nam ?_))
        rw [i_ad1]
        exact Wp.ret rfl
      rw [lop2_inl b1, lop2_inl b2]
      refine ih (k + 1) fc fm M2 N2 (by omega) (by omega) (by omega) ?_ (s2 hs)
      have : T + ((k + 1 : Nat) : Int) = T + (k : Int) + 1 := by omega
      rw [this]
      exact q2
def hmR (what : Int32) (r : Nat → Int32) : Int32 := if what = 1 then r 7 else if what = 2 then r 4 + r 5 else r 12
theorem QR.d {x : Nat} {L : LN} {p i : Int32} {M N M1 N1 : Mem} {T : Int} (h : QR x L p i M N T M1 N1) : ∃ q, gQD q ((N1.1 (x + 95 + 8)) 2).toInt (N1.1 (x + 95 + 8)) ∧ 0 ≤ q := by
  obtain ⟨m, hm, _⟩ := h.2.2.2.2.2.2.2
  exact ⟨m, hm.2.2.2.2.2.1, by omega⟩
theorem QR.hm {x : Nat} {L : LN} {p i : Int32} {M N M1 N1 : Mem} {T : Int} (h : QR x L p i M N T M1 N1) (hT : T ≤ 60000) : ((N1.1 (x + 95 + 8) 4) + (N1.1 (x + 95 + 8) 5)).toInt = (N1.1 (x + 95 + 8) 4).toInt + (N1.1 (x + 95 + 8) 5).toInt := by
  obtain ⟨q, ⟨d1, d2, d3⟩, d4⟩ := h.d
  have hf := h.core.2.2.2.1
  unfold gF at hf
  exact ti_add (by omega) (by omega)
theorem e_harm {x : Nat} {L : LN} {p i what : Int32} {M N M1 N1 : Mem} {T : Int} (h : QR x L p i M N T M1 N1) : f_X2_harm (x + 79) what M1 = some (hmR what (N1.1 (x + 95 + 8)), M1) := by
  have hS := h.core.1
  refine Wp.eq ?_
  unfold f_X2_harm hmR
  refine Wp.br (fun g => Wp.ret ?_) (fun g => Wp.br (fun g2 => Wp.ret ?_) (fun g2 => Wp.ret ?_))
  · rw [if_pos g, ← hS.g7]; rfl
  · rw [if_neg g, if_pos g2, ← hS.g4, ← hS.g5]; rfl
  · rw [if_neg g, if_neg g2, ← hS.g12]; rfl
theorem e_once {x : Nat} {L : LN} {p i what : Int32} {M N M1 N1 : Mem} {T : Int} (h : QR x L p i M N T M1 N1) (hw : ¬ what = 0) : f_X11_isOnce (x + 95) what N1 = some (if hmR what (N1.1 (x + 95 + 8)) ≤ hmR what (N.1 (x + 95 + 8)) then 0 else 1, N1) := by
  have h16 := h.2.2.1
  have e7 := h16 7 (by decide)
  have e4 := h16 4 (by decide)
  have e5 := h16 5 (by decide)
  have e12 := h16 12 (by decide)
  refine Wp.eq ?_
  unfold f_X11_isOnce hmR
  rw [e7, e4, e5, e12]
  refine Wp.ng hw (Wp.br (fun g => Wp.j1 ?_) (fun g => Wp.j1 (Wp.br (fun g2 => ?_) (fun g2 => ?_))))
  · rw [if_pos g, if_pos g]
    refine Wp.br (fun a => Wp.gp (Or.inl rfl) (Wp.ret ?_)) (fun a => Wp.gp (Or.inr rfl) (Wp.ret ?_))
    · rw [if_pos a]
    · rw [if_neg a]
  · rw [if_neg g, if_pos g2, if_neg g, if_pos g2]
    refine Wp.br (fun a => Wp.gp (Or.inl rfl) (Wp.ret ?_)) (fun a => Wp.gp (Or.inr rfl) (Wp.ret ?_))
    · rw [if_pos a]
    · rw [if_neg a]
  · rw [if_neg g, if_neg g2, if_neg g, if_neg g2]
    refine Wp.br (fun a => Wp.gp (Or.inl rfl) (Wp.ret ?_)) (fun a => Wp.gp (Or.inr rfl) (Wp.ret ?_))
    · rw [if_pos a]
    · rw [if_neg a]
theorem when1_loop {x : Nat} {L : LN} {M N : Mem} {T : Int} {what : Int32} (hI : Inv2 x L M N) (hT : 0 ≤ T ∧ T ≤ 20000) (hw : ¬ what = 0) : ∀ (n k fc fm : Nat) (M1 N1 : Mem), k + n = 400 → n + 2 < fc → n + 2 < fm → QR x L (L.1 2) (L.1 3) M N (T + k) M1 N1 → N1.1 (x + 95) 29 = 0 → hmR what (N1.1 (x + 95 + 8)) = hmR what (N.1 (x + 95 + 8)) → ∃ v M2 N2, lop2 fc (l_X2_firstOf_18 (x + 79) (M.2.2 0) what (hmR what (N.1 (x + 95 + 8)))) (Int32.ofNat (k + 1)) M1 = some (v, M2) ∧ lop2 fm (l_X11_when_28 (x + 95) what) (Int32.ofNat k) N1 = some (v, N2) ∧ Fin x L M N M2 N2 := by
  intro n
  induction n with
  | zero =>
    intro k fc fm M1 N1 hk hc hm q hs hh
    obtain ⟨fc, rfl⟩ : ∃ q, fc = q + 1 := ⟨fc - 1, by omega⟩
    obtain ⟨fm, rfl⟩ : ∃ q, fm = q + 1 + 1 := ⟨fm - 2, by omega⟩
    obtain rfl : k = 400 := by omega
    obtain ⟨M2, N2, e1, e2, q2, s2, _, _, _⟩ := q.step hI.1 hI.at ⟨by omega, by omega⟩
    refine ⟨-1, M1, rcp N2 (x + 95 + 16) (x + 95 + 8) 665, lop2_inr (Wp.eq ?_), ?_, q2.fin hI (s2 hs) q.1⟩
    · unfold l_X2_firstOf_18
      exact Wp.ps (by decide) (Wp.ret rfl)
    · have b2 : l_X11_when_28 (x + 95) what (Int32.ofNat 400) N1 = some (.inl (Int32.ofNat (400 + 1), N2)) := by
        refine Wp.eq ?_
        unfold l_X11_when_28
        refine Wp.ng (by decide) (Wp.cl (e_once q hw) ?_)
        rw [hh, if_pos (le_of (Int.le_refl _))]
        refine Wp.ps rfl (Wp.cl e2 (Wp.nam ?_))
        rw [i_ad1]
        exact Wp.ret rfl
      rw [lop2_inl b2]
      refine lop2_inr (Wp.eq ?_)
      unfold l_X11_when_28
      exact Wp.ps (by decide) (Wp.cl q2.bk (Wp.ret rfl))
  | succ n ih =>
    intro k fc fm M1 N1 hk hc hm q hs hh
    obtain ⟨fc, rfl⟩ : ∃ q, fc = q + 1 := ⟨fc - 1, by omega⟩
    obtain ⟨fm, rfl⟩ : ∃ q, fm = q + 1 := ⟨fm - 1, by omega⟩
    obtain ⟨M2, N2, e1, e2, q2, s2, _, _, m7, m12, m45⟩ := q.step hI.1 hI.at ⟨by omega, by omega⟩
    have hT2 : T + ((k + 1 : Nat) : Int) = T + (k : Int) + 1 := by omega
    have hmono : (hmR what (N.1 (x + 95 + 8))).toInt ≤ (hmR what (N2.1 (x + 95 + 8))).toInt := by
      rw [← hh]
      unfold hmR
      by_cases g : what = 1
      · rw [if_pos g, if_pos g]; exact m7
      · by_cases g2 : what = 2
        · rw [if_neg g, if_pos g2, if_neg g, if_pos g2, q.hm (by omega), q2.hm (by omega)]; exact m45
        · rw [if_neg g, if_neg g2, if_neg g, if_neg g2]; exact m12
    have b2 : l_X11_when_28 (x + 95) what (Int32.ofNat k) N1 = some (.inl (Int32.ofNat (k + 1), N2)) := by
      refine Wp.eq ?_
      unfold l_X11_when_28
      refine Wp.ng (i400 (by omega)) (Wp.cl (e_once q hw) ?_)
      rw [hh, if_pos (le_of (Int.le_refl _))]
      refine Wp.ps rfl (Wp.cl e2 (Wp.nam ?_))
      rw [i_ad1]
      exact Wp.ret rfl
    rw [lop2_inl b2]
    by_cases g : hmR what (N2.1 (x + 95 + 8)) = hmR what (N.1 (x + 95 + 8))
    · have b1 : l_X2_firstOf_18 (x + 79) (M.2.2 0) what (hmR what (N.1 (x + 95 + 8))) (Int32.ofNat (k + 1)) M1 = some (.inl (Int32.ofNat (k + 1 + 1), M2)) := by
        refine Wp.eq ?_
        unfold l_X2_firstOf_18
        refine Wp.ng (i400 (by omega)) (Wp.cl e1 (Wp.cl (e_harm q2) (Wp.ps g (Wp.nam ?_))))
        rw [i_ad1]
        exact Wp.ret rfl
      rw [lop2_inl b1]
      refine ih (k + 1) fc fm M2 N2 (by omega) (by omega) (by omega) ?_ (s2 hs) g
      rw [hT2]
      exact q2
    · have gne : ¬ (hmR what (N2.1 (x + 95 + 8))).toInt = (hmR what (N.1 (x + 95 + 8))).toInt := fun e => g (Int32.toInt_inj.mp e)
      obtain ⟨fm, rfl⟩ : ∃ q, fm = q + 1 := ⟨fm - 1, by omega⟩
      refine ⟨Int32.ofNat (k + 1), M2, _, lop2_inr (Wp.eq ?_), lop2_inr (Wp.eq ?_), q2.fin hI (s2 hs) q2.1⟩
      · unfold l_X2_firstOf_18
        exact Wp.ng (i400 (by omega)) (Wp.cl e1 (Wp.cl (e_harm q2) (Wp.ng g (Wp.ret rfl))))
      · unfold l_X11_when_28
        refine Wp.ng (i400 (by omega)) (Wp.cl (e_once q2 hw) ?_)
        rw [if_neg (nle_of (by omega))]
        exact Wp.ng (by decide) (Wp.cl q2.bk (Wp.ret rfl))
theorem call_when {x : Nat} {L : LN} {M N0 N : Mem} {what : Int32} (h : Rdy x L M N0 N) : CallT x κ0 M N (f_X10_when x what M) (f_X11_when (x + 95) what N0) := by
  obtain ⟨hr, hI, hc0⟩ := h
  have ha := hI.at
  have e3 : (3 : Int32).toInt = 3 := rfl
  have e0 : (0 : Int32).toInt = 0 := rfl
  have l3 : (3 : Int64).toInt = 3 := rfl
  by_cases hw : 0 ≤ what.toInt ∧ what.toInt ≤ 3
  · obtain ⟨T, t0, t1, M1, N1, c1, c2, q, s0, fN, fM⟩ := hI.rw0
    have q' : QR x L (L.1 2) (L.1 3) M N (T + (0 : Nat)) M1 N1 := by
      have : T + ((0 : Nat) : Int) = T := by omega
      rw [this]; exact q
    by_cases hz : what = 0
    · subst hz
      obtain ⟨v, M2, N2, g1, g2, hf⟩ := when0_loop hI ⟨t0, t1⟩ 401 0 FU FU M1 N1 (by omega) (by unfold FU; omega) (by unfold FU; omega) q' s0
      refine hf.t (v := v) hc0 ?_ ?_
      · refine Wp.eq ?_
        unfold f_X10_when
        refine Wp.j0 (Wp.ng (by decide) (Wp.ps (by decide) (Wp.j2 (Wp.ps rfl (Wp.gp ha ?_)))))
        have e : f_X2_firstPlaying (x + 79) (x + 19 + 1) (M.2.2 0) M = some (v, M2) := by
          unfold f_X2_firstPlaying
          rw [bd_eq c1]
          exact g1
        exact Wp.cl e (Wp.ret rfl)
      · refine Wp.eq ?_
        unfold f_X11_when
        refine Wp.cl hr (Wp.cl (e_in1 (by decide)) (Wp.ng (by decide) (Wp.cl c2 ?_)))
        exact ⟨_, g2, rfl⟩
    · have hh : hmR what (N1.1 (x + 95 + 8)) = hmR what (N.1 (x + 95 + 8)) := by
        unfold hmR
        rw [fN _ _ (by omega), fN _ _ (by omega), fN _ _ (by omega), fN _ _ (by omega)]
      obtain ⟨v, M2, N2, g1, g2, hf⟩ := when1_loop (what := what) hI ⟨t0, t1⟩ hz 400 0 FU FU M1 N1 (by omega) (by unfold FU; omega) (by unfold FU; omega) q' s0 hh
      refine hf.t (v := v) hc0 ?_ ?_
      · refine Wp.eq ?_
        unfold f_X10_when
        refine Wp.j0 (Wp.ng (nlt_of (by rw [e0]; omega)) (Wp.ps (le_of (by rw [e3]; omega)) (Wp.j2 (Wp.ng hz (Wp.gp ha ?_)))))
        have e : f_X2_firstOf (x + 79) (x + 19 + 1) (M.2.2 0) what M = some (v, M2) := by
          unfold f_X2_firstOf
          rw [bd_eq c1, bd_eq (e_harm q), hh]
          exact g1
        exact Wp.cl e (Wp.ret rfl)
      · refine Wp.eq ?_
        unfold f_X11_when
        refine Wp.cl hr (Wp.cl (e_in1 (by rw [q0, l3]; omega)) (Wp.ng (by decide) (Wp.cl c2 ?_)))
        exact ⟨_, g2, rfl⟩
  · refine CallT.err (e := 0) (k := 1) hI ?_ ?_ rfl
    · refine Wp.eq ?_
      unfold f_X10_when
      refine Wp.j0 (Wp.br (fun _ => Wp.ret rfl) (fun g => Wp.ng (nle_of ?_) (Wp.ret rfl)))
      have := Int32.le_iff_toInt_le.mp (nlt_le.mp g)
      rw [e0] at this
      rw [e3]
      omega
    · refine Wp.eq ?_
      unfold f_X11_when
      refine Wp.cl hr ?_
      refine Wp.cl (e_in0 (by rw [q0, l3]; omega)) (Wp.ps rfl ?_)
      exact Wp.cl e_fail (Wp.ret rfl)
