/-! The model's rule, kept or reckoned. -/
theorem rset_nf {M : Mem} {q b : Nat} {S : Nat → Int32} (h : ¬ b = q) : (rset M q S).1 b = M.1 b := funext fun _ => rset_ne h
theorem rset_rf {M : Mem} {q : Nat} {S : Nat → Int32} : (rset M q S).1 q = S := funext fun _ => rset_rd
def Vol (t : Nat) (N N' : Mem) : Prop := (∀ b k, ¬ (t + 11 ≤ b ∧ b ≤ t + 14) → N'.1 b k = N.1 b k) ∧ N'.2 = N.2
theorem Vol.rf {t : Nat} {N : Mem} : Vol t N N := ⟨fun _ _ _ => rfl, rfl⟩
theorem Vol.tr {t : Nat} {N N1 N2 : Mem} (h1 : Vol t N N1) (h2 : Vol t N1 N2) : Vol t N N2 := ⟨fun b k h => (h2.1 b k h).trans (h1.1 b k h), h2.2.trans h1.2⟩
theorem Vol.rs {t q : Nat} {N N' : Mem} {S : Nat → Int32} (h : Vol t N N') (hq : t + 11 ≤ q ∧ q ≤ t + 14) : Vol t N (rset N' q S) := ⟨fun b k hb => by rw [rset_ne (fun e => hb (by omega))]; exact h.1 b k hb, h.2⟩
def csx (x : Int32) (cd cl : List Int32) : List Int32 := if x = 0 then cd else cl
/-- what is kept is right -/
def CVm (t : Nat) (N : Mem) (cd cl : List Int32) : Prop := ∀ k, k < 2048 → ¬ N.1 (t + 14) k = 0 → N.1 (t + 13) k = valS (if k < 1024 then cd else cl) (N.1 (t + 12) (4 * k)) (N.1 (t + 12) (4 * k + 1)) (N.1 (t + 12) (4 * k + 2)) (N.1 (t + 12) (4 * k + 3))
def RulM (N : Mem) (t s r : Nat) (cs : List Int32) : Prop := N.1 (t + 3) s = Int32.ofNat cs.length ∧ cs.length ≤ 700 ∧ ∀ j, j < cs.length → N.1 r j = trS (cs.getD j 0)
theorem i_4y {y k : Nat} : (4 : Int32) * Int32.ofNat y + Int32.ofNat k = Int32.ofNat (4 * y + k) := i_lin (c := 4)
theorem wi_rs {N : Mem} {q k : Nat} {v : Int32} : wi N q k v = rset N q (rup (N.1 q) k v) := by
  have h : wi (rset N q (N.1 q)) q k v = rset N q (rup (N.1 q) k v) := wi_rset
  rw [rset_get] at h
  exact h
theorem lop2_inl {α0 α1 τ : Type} {fu : Nat} {b : α0 → α1 → Option ((α0 × α1) ⊕ τ)} {x x' : α0} {y y' : α1} (h : b x y = some (.inl (x', y'))) : lop2 (fu + 1) b x y = lop2 fu b x' y' := by
  simp only [lop2, h]
theorem lop2_inr {α0 α1 τ : Type} {fu : Nat} {b : α0 → α1 → Option ((α0 × α1) ⊕ τ)} {x : α0} {y : α1} {t : τ} (h : b x y = some (.inr t)) : lop2 (fu + 1) b x y = some t := by
  simp only [lop2, h]
theorem FU5 : FU = 999995 + 1 + 1 + 1 + 1 + 1 := rfl
theorem lop2_4 {α1 τ : Type} {b : Int32 → α1 → Option ((Int32 × α1) ⊕ τ)} {M0 M1 M2 M3 M4 : α1} (h0 : b (Int32.ofNat 0) M0 = some (.inl (Int32.ofNat 1, M1))) (h1 : b (Int32.ofNat 1) M1 = some (.inl (Int32.ofNat 2, M2))) (h2 : b (Int32.ofNat 2) M2 = some (.inl (Int32.ofNat 3, M3))) (h3 : b (Int32.ofNat 3) M3 = some (.inl (Int32.ofNat 4, M4))) : lop2 FU b (0 : Int32) M0 = lop2 (999995 + 1) b (Int32.ofNat 4) M4 := by
  have e : lop2 (999995 + 1 + 1 + 1 + 1 + 1) b (Int32.ofNat 0) M0 = lop2 (999995 + 1) b (Int32.ofNat 4) M4 := by rw [lop2_inl h0, lop2_inl h1, lop2_inl h2, lop2_inl h3]
  exact e
theorem lop2_4r {τ : Type} {b : Int32 → Int32 → Option ((Int32 × Int32) ⊕ τ)} {M0 M1 M2 M3 M4 : Int32} (h0 : b M0 (Int32.ofNat 0) = some (.inl (M1, Int32.ofNat 1))) (h1 : b M1 (Int32.ofNat 1) = some (.inl (M2, Int32.ofNat 2))) (h2 : b M2 (Int32.ofNat 2) = some (.inl (M3, Int32.ofNat 3))) (h3 : b M3 (Int32.ofNat 3) = some (.inl (M4, Int32.ofNat 4))) : lop2 FU b M0 (0 : Int32) = lop2 (999995 + 1) b M4 (Int32.ofNat 4) := by
  have e : lop2 (999995 + 1 + 1 + 1 + 1 + 1) b M0 (Int32.ofNat 0) = lop2 (999995 + 1) b M4 (Int32.ofNat 4) := by rw [lop2_inl h0, lop2_inl h1, lop2_inl h2, lop2_inl h3]
  exact e
theorem i4_lt {k : Nat} (hk : k < 4) : ¬ (4 : Int32) ≤ Int32.ofNat k := fun h => by
  have h2 : Int32.ofNat 4 ≤ Int32.ofNat k := h
  have := (i_le (by omega) (by omega)).mp h2
  omega
theorem fill_step {N : Mem} {t y k : Nat} {x : Int32} {G : Nat → Int32} (hy : y < 2048) (hk : k < 4) : l_X11_ruleNow_112 t x (Int32.ofNat y) (Int32.ofNat k) (rset N (t + 12) G) = some (.inl (Int32.ofNat (k + 1), rset N (t + 12) (rup G (4 * y + k) (N.1 (t + 10) k)))) := by
  refine Wp.eq ?_
  unfold l_X11_ruleNow_112
  refine Wp.ng (i4_lt hk) ?_
  refine Wp.gi (i_rng hk (by decide)) ?_
  rw [i_4y, i_nn (show k < 2 ^ 31 by omega), i_nn (show 4 * y + k < 2 ^ 31 by omega)]
  refine Wp.gi (i_rng (by omega) (by decide)) ?_
  refine Wp.nam (Wp.nam ?_)
  rw [i_add1 (by omega), rset_ne (show ¬ t + 10 = t + 12 by omega), wi_rset]
  exact Wp.ret rfl
def RQ (t : Nat) (cd cl cs : List Int32) (N : Mem) (v : Int32) (M' : Mem) : Prop := v = valS cs (N.1 (t + 10) 0) (N.1 (t + 10) 1) (N.1 (t + 10) 2) (N.1 (t + 10) 3) ∧ Vol t N M' ∧ CVm t M' cd cl
theorem fill_ok {N : Mem} {t y : Nat} {x : Int32} {cd cl : List Int32} (hD : RulM N t 8 (t + 5) cd) (hL : RulM N t 9 (t + 6) cl) (hd : dpl (csx x cd cl) 0 = some 1) (hv : CVm t N cd cl) (hy : y < 2048) (hx : (x = 0 ∧ y < 1024) ∨ (x = 1 ∧ 1024 ≤ y)) : Wp (lop2 FU (l_X11_ruleNow_112 t x (Int32.ofNat y)) (0 : Int32) N) (fun r => ∃ v M', r = .inr (.inr (v, M')) ∧ RQ t cd cl (csx x cd cl) N v M') := by
  have hN : N = rset N (t + 12) (N.1 (t + 12)) := rset_get.symm
  generalize hG : rup (rup (rup (rup (N.1 (t + 12)) (4 * y + 0) (N.1 (t + 10) 0)) (4 * y + 1) (N.1 (t + 10) 1)) (4 * y + 2) (N.1 (t + 10) 2)) (4 * y + 3) (N.1 (t + 10) 3) = G
  have hloop : lop2 FU (l_X11_ruleNow_112 t x (Int32.ofNat y)) (0 : Int32) N = lop2 (999995 + 1) (l_X11_ruleNow_112 t x (Int32.ofNat y)) (Int32.ofNat 4) (rset N (t + 12) G) := by
    rw [← hG]
    have e0 := lop2_4 (fill_step (N := N) (t := t) (x := x) (G := N.1 (t + 12)) hy (show 0 < 4 by decide)) (fill_step hy (show 1 < 4 by decide)) (fill_step hy (show 2 < 4 by decide)) (fill_step hy (show 3 < 4 by decide))
    rw [← hN] at e0
    exact e0
  rw [hloop]
  refine Wp.l2 ?_
  unfold l_X11_ruleNow_112
  refine Wp.ps (by decide) ?_
  refine Wp.j2 ?_
  have hG0 : ∀ b j, ¬ b = t + 12 → (rset N (t + 12) G).1 b j = N.1 b j := fun b j h => rset_ne h
  have hasked : ∀ j, (rset N (t + 12) G).1 (t + 10) j = N.1 (t + 10) j := fun j => rset_ne (by omega)
  have hfin : ∀ S : Nat → Int32, CVm t (rset (rset (rset (rset N (t + 12) G) (t + 11) S) (t + 13) (rup (N.1 (t + 13)) y (valS (csx x cd cl) (N.1 (t + 10) 0) (N.1 (t + 10) 1) (N.1 (t + 10) 2) (N.1 (t + 10) 3)))) (t + 14) (rup (N.1 (t + 14)) y 1)) cd cl := by
    intro S k hk h14
    rw [rset_rd] at h14
    rw [rset_ne (show ¬ t + 13 = t + 14 by omega), rset_rd, rset_ne (show ¬ t + 12 = t + 14 by omega), rset_ne (show ¬ t + 12 = t + 13 by omega), rset_ne (show ¬ t + 12 = t + 11 by omega), rset_rd]
    rw [rset_ne (show ¬ t + 12 = t + 14 by omega), rset_ne (show ¬ t + 12 = t + 13 by omega), rset_ne (show ¬ t + 12 = t + 11 by omega), rset_rd]
    rw [rset_ne (show ¬ t + 12 = t + 14 by omega), rset_ne (show ¬ t + 12 = t + 13 by omega), rset_ne (show ¬ t + 12 = t + 11 by omega), rset_rd]
    rw [rset_ne (show ¬ t + 12 = t + 14 by omega), rset_ne (show ¬ t + 12 = t + 13 by omega), rset_ne (show ¬ t + 12 = t + 11 by omega), rset_rd]
    subst hG
    by_cases hky : k = y
    · subst hky
      have hcs : (if k < 1024 then cd else cl) = csx x cd cl := by
        unfold csx
        rcases hx with ⟨h1, h2⟩ | ⟨h1, h2⟩
        · rw [if_pos h2, if_pos h1]
        · rw [if_neg (by omega), if_neg (by rw [h1]; decide)]
      rw [rup_s, hcs]
      have g0 : ∀ A B C D : Int32, rup (rup (rup (rup (N.1 (t + 12)) (4 * k + 0) A) (4 * k + 1) B) (4 * k + 2) C) (4 * k + 3) D (4 * k) = A := fun A B C D => by
        rw [rup_o (by omega), rup_o (by omega), rup_o (by omega)]
        exact rup_s
      have g1 : ∀ A B C D : Int32, rup (rup (rup (rup (N.1 (t + 12)) (4 * k + 0) A) (4 * k + 1) B) (4 * k + 2) C) (4 * k + 3) D (4 * k + 1) = B := fun A B C D => by
        rw [rup_o (by omega), rup_o (by omega), rup_s]
      have g2 : ∀ A B C D : Int32, rup (rup (rup (rup (N.1 (t + 12)) (4 * k + 0) A) (4 * k + 1) B) (4 * k + 2) C) (4 * k + 3) D (4 * k + 2) = C := fun A B C D => by
        rw [rup_o (by omega), rup_s]
      have g3 : ∀ A B C D : Int32, rup (rup (rup (rup (N.1 (t + 12)) (4 * k + 0) A) (4 * k + 1) B) (4 * k + 2) C) (4 * k + 3) D (4 * k + 3) = D := fun A B C D => rup_s
      rw [g0, g1, g2, g3]
    · rw [rup_o hky] at h14
      rw [rup_o hky, hv k hk h14]
      have g : ∀ j, j < 4 → ∀ A B C D : Int32, rup (rup (rup (rup (N.1 (t + 12)) (4 * y + 0) A) (4 * y + 1) B) (4 * y + 2) C) (4 * y + 3) D (4 * k + j) = N.1 (t + 12) (4 * k + j) := fun j hj A B C D => by
        rw [rup_o (by omega), rup_o (by omega), rup_o (by omega), rup_o (by omega)]
      have q0 : ∀ A B C D : Int32, rup (rup (rup (rup (N.1 (t + 12)) (4 * y + 0) A) (4 * y + 1) B) (4 * y + 2) C) (4 * y + 3) D (4 * k) = N.1 (t + 12) (4 * k) := fun A B C D => by
        rw [rup_o (by omega), rup_o (by omega), rup_o (by omega), rup_o (by omega)]
      rw [q0, g 1 (by decide), g 2 (by decide), g 3 (by decide)]
  refine Wp.br (fun h => ?_) (fun h => ?_)
  · have hc : csx x cd cl = cd := if_pos h
    obtain ⟨S', e⟩ := e_mvalue (N := rset N (t + 12) G) (t := t) (r1 := t + 5) (cs := cd) (by omega) hD.2.1 (fun j hj => by rw [hG0 _ _ (by omega)]; exact hD.2.2 j hj) (by rw [hc] at hd; exact hd)
    rw [hG0 (t + 3) 8 (by omega), hD.1]
    refine Wp.cl e ?_
    refine Wp.gi (i_rng hy (by decide)) ?_
    refine Wp.nam ?_
    refine Wp.gi (i_rng hy (by decide)) ?_
    refine Wp.nam ?_
    refine Wp.gi (i_rng hy (by decide)) ?_
    rw [i_nn (show y < 2 ^ 31 by omega), wi_rs (q := t + 13), rset_nf (show ¬ t + 13 = t + 11 by omega), rset_nf (show ¬ t + 13 = t + 12 by omega)]
    rw [wi_rs (q := t + 14), rset_nf (show ¬ t + 14 = t + 13 by omega), rset_nf (show ¬ t + 14 = t + 11 by omega), rset_nf (show ¬ t + 14 = t + 12 by omega)]
    rw [rset_ne (show ¬ t + 13 = t + 14 by omega), rset_rd, rup_s]
    refine Wp.ret ⟨_, _, rfl, ?_, ?_, ?_⟩
    · rw [hasked, hasked, hasked, hasked, hc]
    · exact (((Vol.rf.rs (by omega)).rs (by omega)).rs (by omega)).rs (by omega)
    · have hf := hfin S'
      rw [hc] at hf
      rw [hasked, hasked, hasked, hasked]
      exact hf
  · have hc : csx x cd cl = cl := if_neg h
    obtain ⟨S', e⟩ := e_mvalue (N := rset N (t + 12) G) (t := t) (r1 := t + 6) (cs := cl) (by omega) hL.2.1 (fun j hj => by rw [hG0 _ _ (by omega)]; exact hL.2.2 j hj) (by rw [hc] at hd; exact hd)
    rw [hG0 (t + 3) 9 (by omega), hL.1]
    refine Wp.cl e ?_
    refine Wp.gi (i_rng hy (by decide)) ?_
    refine Wp.nam ?_
    refine Wp.gi (i_rng hy (by decide)) ?_
    refine Wp.nam ?_
    refine Wp.gi (i_rng hy (by decide)) ?_
    rw [i_nn (show y < 2 ^ 31 by omega), wi_rs (q := t + 13), rset_nf (show ¬ t + 13 = t + 11 by omega), rset_nf (show ¬ t + 13 = t + 12 by omega)]
    rw [wi_rs (q := t + 14), rset_nf (show ¬ t + 14 = t + 13 by omega), rset_nf (show ¬ t + 14 = t + 11 by omega), rset_nf (show ¬ t + 14 = t + 12 by omega)]
    rw [rset_ne (show ¬ t + 13 = t + 14 by omega), rset_rd, rup_s]
    refine Wp.ret ⟨_, _, rfl, ?_, ?_, ?_⟩
    · rw [hasked, hasked, hasked, hasked, hc]
    · exact (((Vol.rf.rs (by omega)).rs (by omega)).rs (by omega)).rs (by omega)
    · have hf := hfin S'
      rw [hc] at hf
      rw [hasked, hasked, hasked, hasked]
      exact hf
theorem cmp_ok {N : Mem} {t y : Nat} {x : Int32} {cd cl : List Int32} (hD : RulM N t 8 (t + 5) cd) (hL : RulM N t 9 (t + 6) cl) (hd : dpl (csx x cd cl) 0 = some 1) (hv : CVm t N cd cl) (hy : y < 2048) (hx : (x = 0 ∧ y < 1024) ∨ (x = 1 ∧ 1024 ≤ y)) : Wp (lop2 FU (l_X11_ruleNow_55 t x N (Int32.ofNat y)) (N.1 (t + 14) y) (0 : Int32)) (fun r => ∃ v M', r = .inr (v, M') ∧ RQ t cd cl (csx x cd cl) N v M') := by
  have hz : ∀ (fu : Nat) (K : Int32), Wp (lop2 (fu + 1) (l_X11_ruleNow_55 t x N (Int32.ofNat y)) (0 : Int32) K) (fun r => ∃ v M', r = .inr (v, M') ∧ RQ t cd cl (csx x cd cl) N v M') := fun fu K => by
    refine Wp.l2 ?_
    unfold l_X11_ruleNow_55
    refine Wp.j0 ?_
    refine Wp.ps rfl ?_
    refine Wp.ps rfl ?_
    refine (fill_ok hD hL hd hv hy hx).mono ?_
    rintro r ⟨v, M', rfl, h⟩
    exact ⟨v, M', rfl, h⟩
  by_cases h0 : N.1 (t + 14) y = 0
  · rw [h0]
    exact hz 999999 0
  · have hk : ∀ (n k fu : Nat) (K : Int32), k + n = 4 → n + 2 < fu → ¬ K = 0 → (∀ j, j < k → N.1 (t + 12) (4 * y + j) = N.1 (t + 10) j) → Wp (lop2 fu (l_X11_ruleNow_55 t x N (Int32.ofNat y)) K (Int32.ofNat k)) (fun r => ∃ v M', r = .inr (v, M') ∧ RQ t cd cl (csx x cd cl) N v M') := by
      intro n
      induction n with
      | zero =>
        intro k fu K hkn hf hK hj
        obtain ⟨fu, rfl⟩ : ∃ q, fu = q + 1 := ⟨fu - 1, by omega⟩
        obtain rfl : k = 4 := by omega
        refine Wp.l2 ?_
        unfold l_X11_ruleNow_55
        refine Wp.j0 ?_
        refine Wp.ng hK ?_
        refine Wp.ps (by decide) ?_
        refine Wp.ng hK ?_
        refine Wp.gi (i_rng hy (by decide)) ?_
        refine Wp.ret ⟨_, _, rfl, ?_, Vol.rf, hv⟩
        have hcs : (if y < 1024 then cd else cl) = csx x cd cl := by
          unfold csx
          rcases hx with ⟨h1, h2⟩ | ⟨h1, h2⟩
          · rw [if_pos h2, if_pos h1]
          · rw [if_neg (by omega), if_neg (by rw [h1]; decide)]
        have q0 : N.1 (t + 12) (4 * y) = N.1 (t + 10) 0 := hj 0 (by decide)
        rw [i_nn (show y < 2 ^ 31 by omega), hv y hy h0, hcs, q0, hj 1 (by decide), hj 2 (by decide), hj 3 (by decide)]
      | succ n ih =>
        intro k fu K hkn hf hK hj
        obtain ⟨fu, rfl⟩ : ∃ q, fu = q + 1 + 1 := ⟨fu - 2, by omega⟩
        refine Wp.l2 ?_
        unfold l_X11_ruleNow_55
        refine Wp.j0 ?_
        refine Wp.ng hK ?_
        refine Wp.ng (i4_lt (by omega)) ?_
        rw [i_4y, i_nn (show k < 2 ^ 31 by omega), i_nn (show 4 * y + k < 2 ^ 31 by omega)]
        refine Wp.gi (i_rng (by omega) (by decide)) ?_
        refine Wp.gi (i_rng (by omega) (by decide)) ?_
        refine Wp.j1 ?_
        refine Wp.br (fun h => ?_) (fun h => ?_)
        · refine Wp.nam ?_
          rw [i_add1 (by omega)]
          refine Wp.ret ?_
          refine ih (k + 1) (fu + 1) 1 (by omega) (by omega) (by decide) (fun j hj2 => ?_)
          by_cases hjk : j = k
          · rw [hjk]; exact h
          · exact hj j (by omega)
        · refine Wp.nam ?_
          refine Wp.ret ?_
          exact hz fu _
    exact hk 4 0 FU _ (by omega) (by unfold FU; omega) h0 (fun j hj => absurd hj (by omega))
theorem hash_step {N : Mem} {t k : Nat} {x h : Int32} (hk : k < 4) : l_X11_ruleNow_4 t x N h (Int32.ofNat k) = some (.inl ((31 : Int32) * h + N.1 (t + 10) k, Int32.ofNat (k + 1))) := by
  refine Wp.eq ?_
  unfold l_X11_ruleNow_4
  refine Wp.ng (i4_lt hk) ?_
  refine Wp.gi (i_rng hk (by decide)) ?_
  refine Wp.nam (Wp.nam ?_)
  rw [i_add1 (by omega), i_nn (show k < 2 ^ 31 by omega)]
  exact Wp.ret rfl
theorem e_ruleNow {N : Mem} {t : Nat} {x : Int32} {cd cl : List Int32} (hD : RulM N t 8 (t + 5) cd) (hL : RulM N t 9 (t + 6) cl) (hd : dpl (csx x cd cl) 0 = some 1) (hv : CVm t N cd cl) (hx : x = 0 ∨ x = 1) : Wp (f_X11_ruleNow t x N) (fun q => RQ t cd cl (csx x cd cl) N q.1 q.2) := by
  unfold f_X11_ruleNow
  have hloop : ∃ h : Int32, lop2 FU (l_X11_ruleNow_4 t x N) (0 : Int32) (0 : Int32) = lop2 (999995 + 1) (l_X11_ruleNow_4 t x N) h (Int32.ofNat 4) := by
    exact ⟨_, lop2_4r (hash_step (show 0 < 4 by decide)) (hash_step (show 1 < 4 by decide)) (hash_step (show 2 < 4 by decide)) (hash_step (show 3 < 4 by decide))⟩
  obtain ⟨h, e⟩ := hloop
  rw [e]
  refine Wp.l2 ?_
  unfold l_X11_ruleNow_4
  refine Wp.ps (by decide) ?_
  refine Wp.j1 ?_
  have h10 := ti_and1023 h
  have hend : ∀ z : Int32, ∀ y : Nat, (h &&& (1023 : Int32)) + z = Int32.ofNat y → y < 2048 → ((x = 0 ∧ y < 1024) ∨ (x = 1 ∧ 1024 ≤ y)) → Wp (nm ((h &&& (1023 : Int32)) + z) (fun y4 => gdi y4 2048 (nm (N.1 (t + 14) y4.toNatClampNeg) (fun y5 => lop2 FU (l_X11_ruleNow_55 t x N y4) y5 (0 : Int32))))) (fun r => Sum.elim (fun q => Wp (lop2 999995 (l_X11_ruleNow_4 t x N) q.1 q.2) (fun q => RQ t cd cl (csx x cd cl) N q.1 q.2)) (fun q => RQ t cd cl (csx x cd cl) N q.1 q.2) r) := by
    intro z y hz hy hxy
    rw [hz]
    refine Wp.nam ?_
    refine Wp.gi (i_rng hy (by decide)) ?_
    refine Wp.nam ?_
    rw [i_nn (show y < 2 ^ 31 by omega)]
    refine (cmp_ok hD hL hd hv hy hxy).mono ?_
    rintro r ⟨v, M', rfl, hq⟩
    exact hq
  refine Wp.br (fun h0 => ?_) (fun h0 => ?_)
  · refine hend 0 (h &&& 1023).toInt.toNat ?_ (by omega) (Or.inl ⟨h0, by omega⟩)
    rw [Int32.add_zero]
    exact nat_of (by omega)
  · have h1 : x = 1 := hx.resolve_left h0
    have e4 : (1024 : Int32).toInt = 1024 := rfl
    have e5 : ((h &&& (1023 : Int32)) + 1024).toInt = (h &&& 1023).toInt + 1024 := by rw [ti_add (by rw [e4]; omega) (by rw [e4]; omega), e4]
    refine hend 1024 ((h &&& 1023) + 1024).toInt.toNat (nat_of (by omega)) (by omega) (Or.inr ⟨h1, by omega⟩)
