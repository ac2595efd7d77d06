/-! The model's rules. -/
theorem Wp.l1 {α0 τ : Type} {fu : Nat} {b : α0 → Option (α0 ⊕ τ)} {x : α0} {P : τ → Prop} (h : Wp (b x) (fun r => Sum.elim (fun q => Wp (lop1 fu b q) P) P r)) : Wp (lop1 (fu + 1) b x) P := by
  obtain ⟨r, e, h⟩ := h
  unfold lop1
  rw [e]
  cases r with
  | inl q => exact h
  | inr t => exact ⟨t, rfl, h⟩
theorem Wp.l2 {α0 α1 τ : Type} {fu : Nat} {b : α0 → α1 → Option ((α0 × α1) ⊕ τ)} {x : α0} {y : α1} {P : τ → Prop} (h : Wp (b x y) (fun r => Sum.elim (fun q => Wp (lop2 fu b q.1 q.2) P) P r)) : Wp (lop2 (fu + 1) b x y) P := by
  obtain ⟨r, e, h⟩ := h
  unfold lop2
  rw [e]
  cases r with
  | inl q => exact h
  | inr t => exact ⟨t, rfl, h⟩
theorem Wp.l3 {α0 α1 α2 τ : Type} {fu : Nat} {b : α0 → α1 → α2 → Option ((α0 × α1 × α2) ⊕ τ)} {x : α0} {y : α1} {z : α2} {P : τ → Prop} (h : Wp (b x y z) (fun r => Sum.elim (fun q => Wp (lop3 fu b q.1 q.2.1 q.2.2) P) P r)) : Wp (lop3 (fu + 1) b x y z) P := by
  obtain ⟨r, e, h⟩ := h
  unfold lop3
  rw [e]
  cases r with
  | inl q => exact h
  | inr t => exact ⟨t, rfl, h⟩
theorem Wp.l4 {α0 α1 α2 α3 τ : Type} {fu : Nat} {b : α0 → α1 → α2 → α3 → Option ((α0 × α1 × α2 × α3) ⊕ τ)} {x : α0} {y : α1} {z : α2} {w : α3} {P : τ → Prop} (h : Wp (b x y z w) (fun r => Sum.elim (fun q => Wp (lop4 fu b q.1 q.2.1 q.2.2.1 q.2.2.2) P) P r)) : Wp (lop4 (fu + 1) b x y z w) P := by
  obtain ⟨r, e, h⟩ := h
  unfold lop4
  rw [e]
  cases r with
  | inl q => exact h
  | inr t => exact ⟨t, rfl, h⟩
theorem i_rng {k n : Nat} (hk : k < n) (hn : n < 2 ^ 31) : 0 ≤ (Int32.ofNat k).toInt ∧ (Int32.ofNat k).toInt < (n : Int) := i_in hk hn
theorem i_lin {c y j : Nat} : Int32.ofNat c * Int32.ofNat y + Int32.ofNat j = Int32.ofNat (c * y + j) := by rw [Int32.ofNat_add, Int32.ofNat_mul]
def trS (u : Int32) : Int32 := if u = -5 then -28 else if u = -6 then -27 else if u = -7 then -26 else if u = -8 then -24 else if u = -9 then -25 else if u = -10 then -20 else if u = -11 then -21 else if u = -12 then -22 else if u = -13 then -23 else u
theorem sg_cases {u : Int32} (h1 : ¬ (-5 : Int32) ≤ u) (h2 : -13 ≤ u.toInt) : u = -6 ∨ u = -7 ∨ u = -8 ∨ u = -9 ∨ u = -10 ∨ u = -11 ∨ u = -12 ∨ u = -13 := by
  rw [Int32.le_iff_toInt_le] at h1
  have e5 : (-5 : Int32).toInt = -5 := rfl
  rw [e5] at h1
  have h3 : u.toInt = -6 ∨ u.toInt = -7 ∨ u.toInt = -8 ∨ u.toInt = -9 ∨ u.toInt = -10 ∨ u.toInt = -11 ∨ u.toInt = -12 ∨ u.toInt = -13 := by omega
  rcases h3 with h | h | h | h | h | h | h | h
  · exact Or.inl (Int32.toInt_inj.mp h)
  · exact Or.inr (Or.inl (Int32.toInt_inj.mp h))
  · exact Or.inr (Or.inr (Or.inl (Int32.toInt_inj.mp h)))
  · exact Or.inr (Or.inr (Or.inr (Or.inl (Int32.toInt_inj.mp h))))
  · exact Or.inr (Or.inr (Or.inr (Or.inr (Or.inl (Int32.toInt_inj.mp h)))))
  · exact Or.inr (Or.inr (Or.inr (Or.inr (Or.inr (Or.inl (Int32.toInt_inj.mp h))))))
  · exact Or.inr (Or.inr (Or.inr (Or.inr (Or.inr (Or.inr (Or.inl (Int32.toInt_inj.mp h)))))))
  · exact Or.inr (Or.inr (Or.inr (Or.inr (Or.inr (Or.inr (Or.inr (Int32.toInt_inj.mp h)))))))
theorem e_reck {u x y : Int32} (M : Mem) (h1 : ¬ (-5 : Int32) ≤ u) (h2 : -13 ≤ u.toInt) : f_X11_reckon (trS u) x y M = some (combC u x y, M) := by
  rcases sg_cases h1 h2 with h | h | h | h | h | h | h | h <;> subst h
  · have e : trS (-6) = -27 := rfl
    rw [e]
    unfold f_X11_reckon combC jn1 jn0
    by_cases e1 : x = 0
    · by_cases e2 : y = 0 <;> simp [e1, e2]
    · simp [e1]
  · have e : trS (-7) = -26 := rfl
    rw [e]
    unfold f_X11_reckon combC jn1 jn0
    by_cases e1 : x = 0
    · simp [e1]
    · by_cases e2 : y = 0 <;> simp [e1, e2]
  · have e : trS (-8) = -24 := rfl
    rw [e]
    unfold f_X11_reckon combC jn1
    by_cases e1 : y ≤ x <;> simp [e1]
  · have e : trS (-9) = -25 := rfl
    rw [e]
    unfold f_X11_reckon combC jn1
    by_cases e1 : x = y <;> simp [e1]
  · rfl
  · rfl
  · rfl
  · have e : trS (-13) = -23 := rfl
    rw [e]
    unfold f_X11_reckon combC jn1 gdp
    by_cases e1 : y = 0 <;> simp [e1]
theorem tr_hi {u : Int32} (h1 : (-5 : Int32) ≤ u) (h2 : ¬ u = -5) : trS u = u ∧ ¬ u ≤ -20 := by
  have h3 := h1
  rw [Int32.le_iff_toInt_le] at h3
  have e5 : (-5 : Int32).toInt = -5 := rfl
  have e20 : (-20 : Int32).toInt = -20 := rfl
  rw [e5] at h3
  have ne : ∀ v : Int32, v.toInt < -5 → ¬ u = v := fun v hv e => by subst e; omega
  refine ⟨?_, fun h => ?_⟩
  · unfold trS
    rw [if_neg h2, if_neg (ne _ (by decide)), if_neg (ne _ (by decide)), if_neg (ne _ (by decide)), if_neg (ne _ (by decide)), if_neg (ne _ (by decide)), if_neg (ne _ (by decide)), if_neg (ne _ (by decide)), if_neg (ne _ (by decide))]
  · rw [Int32.le_iff_toInt_le, e20] at h
    omega
theorem tr_lo {u : Int32} (h1 : ¬ (-5 : Int32) ≤ u) (h2 : -13 ≤ u.toInt) : trS u ≤ -20 ∧ ¬ trS u = -28 := by
  rcases sg_cases h1 h2 with h | h | h | h | h | h | h | h <;> subst h <;> decide
theorem pk_ok {u a b c d : Int32} {Q : Nat → Int32} (h1 : (-5 : Int32) ≤ u) (h2 : ¬ u = -5) (h3 : u < 0) (ha : Q 0 = a) (hb : Q 1 = b) (hc : Q 2 = c) (hd : Q 3 = d) : (0 ≤ ((-1 : Int32) - u).toInt ∧ ((-1 : Int32) - u).toInt < ((4 : Nat) : Int)) ∧ Q ((-1 : Int32) - u).toNatClampNeg = pickC u a b c d := by
  rw [Int32.le_iff_toInt_le] at h1
  rw [Int32.lt_iff_toInt_lt] at h3
  have e5 : (-5 : Int32).toInt = -5 := rfl
  have e0 : (0 : Int32).toInt = 0 := rfl
  have n5 : ¬ u.toInt = -5 := fun h => h2 (Int32.toInt_inj.mp h)
  have h4 : u.toInt = -1 ∨ u.toInt = -2 ∨ u.toInt = -3 ∨ u.toInt = -4 := by omega
  rcases h4 with h | h | h | h
  · obtain rfl : u = -1 := Int32.toInt_inj.mp h
    exact ⟨by decide, ha⟩
  · obtain rfl : u = -2 := Int32.toInt_inj.mp h
    exact ⟨by decide, hb⟩
  · obtain rfl : u = -3 := Int32.toInt_inj.mp h
    exact ⟨by decide, hc⟩
  · obtain rfl : u = -4 := Int32.toInt_inj.mp h
    exact ⟨by decide, hd⟩
theorem mv_push {M : Mem} {t r1 n1 : Nat} {x2 K1 K2 I I1 u v : Int32} (eK : K1 + 1 = K2) (eI : I + 1 = I1) (hlt : ¬ x2 ≤ I) (hI : 0 ≤ I.toInt ∧ I.toInt < (n1 : Int)) (hcd : M.1 r1 I.toNatClampNeg = u) (h1 : ¬ u ≤ -20) (hK : 0 ≤ K1.toInt ∧ K1.toInt < ((64 : Nat) : Int)) (hv1 : u < 0 → (0 ≤ ((-1 : Int32) - u).toInt ∧ ((-1 : Int32) - u).toInt < ((4 : Nat) : Int)) ∧ M.1 (t + 10) ((-1 : Int32) - u).toNatClampNeg = v) (hv2 : ¬ u < 0 → u = v) : l_X11_valueNow_5 t r1 n1 x2 K1 I M = some (.inl (K2, I1, wi M (t + 11) K1.toNatClampNeg v)) := by
  refine Wp.eq ?_
  unfold l_X11_valueNow_5
  refine Wp.ng hlt ?_
  refine Wp.gi hI ?_
  refine Wp.nam ?_
  refine Wp.j2 ?_
  rw [hcd]
  refine Wp.ng h1 ?_
  refine Wp.j1 ?_
  subst eK eI
  refine Wp.br (fun h => ?_) (fun h => ?_)
  · obtain ⟨g1, g2⟩ := hv1 h
    refine Wp.gi g1 ?_
    rw [g2]
    refine Wp.gi hK ?_
    exact Wp.ret rfl
  · rw [hv2 h]
    refine Wp.gi hK ?_
    exact Wp.ret rfl
theorem mv_not {M : Mem} {t r1 n1 : Nat} {x2 K1 K0 I I1 : Int32} (eK : K1 - 1 = K0) (eI : I + 1 = I1) (hlt : ¬ x2 ≤ I) (hI : 0 ≤ I.toInt ∧ I.toInt < (n1 : Int)) (hcd : M.1 r1 I.toNatClampNeg = -28) (hK : 0 ≤ K0.toInt ∧ K0.toInt < ((64 : Nat) : Int)) : l_X11_valueNow_5 t r1 n1 x2 K1 I M = some (.inl (K1, I1, wi M (t + 11) K0.toNatClampNeg (if M.1 (t + 11) K0.toNatClampNeg = 0 then 1 else 0))) := by
  refine Wp.eq ?_
  unfold l_X11_valueNow_5
  refine Wp.ng hlt ?_
  refine Wp.gi hI ?_
  refine Wp.nam ?_
  refine Wp.j2 ?_
  rw [hcd]
  refine Wp.ps (by decide) ?_
  refine Wp.ps rfl ?_
  subst eK eI
  refine Wp.gi hK ?_
  refine Wp.j1 ?_
  refine Wp.br (fun h => ?_) (fun h => ?_)
  · refine Wp.gi hK ?_
    rw [if_pos h]
    exact Wp.ret rfl
  · refine Wp.gi hK ?_
    rw [if_neg h]
    exact Wp.ret rfl
theorem mv_bin {M : Mem} {t r1 n1 : Nat} {x2 K2 K1 K0 I I1 u : Int32} (eK : K2 + -1 = K1) (eK0 : K1 - 1 = K0) (eI : I + 1 = I1) (hlt : ¬ x2 ≤ I) (hI : 0 ≤ I.toInt ∧ I.toInt < (n1 : Int)) (hcd : M.1 r1 I.toNatClampNeg = trS u) (h1 : ¬ (-5 : Int32) ≤ u) (h2 : -13 ≤ u.toInt) (hK0 : 0 ≤ K0.toInt ∧ K0.toInt < ((64 : Nat) : Int)) (hK1 : 0 ≤ K1.toInt ∧ K1.toInt < ((64 : Nat) : Int)) : l_X11_valueNow_5 t r1 n1 x2 K2 I M = some (.inl (K1, I1, wi M (t + 11) K0.toNatClampNeg (combC u (M.1 (t + 11) K0.toNatClampNeg) (M.1 (t + 11) K1.toNatClampNeg)))) := by
  refine Wp.eq ?_
  unfold l_X11_valueNow_5
  refine Wp.ng hlt ?_
  refine Wp.gi hI ?_
  refine Wp.nam ?_
  refine Wp.j2 ?_
  rw [hcd]
  refine Wp.ps (tr_lo h1 h2).1 ?_
  refine Wp.ng (tr_lo h1 h2).2 ?_
  subst eK eK0 eI
  refine Wp.nam ?_
  refine Wp.gi hK0 ?_
  refine Wp.gi hK1 ?_
  refine Wp.cl (e_reck _ h1 h2) ?_
  refine Wp.gi hK0 ?_
  exact Wp.ret rfl
theorem m_run {N : Mem} {t r1 n1 n : Nat} {a b c d : Int32} (hr : ¬ r1 = t + 11) (hn1 : n1 = 1400) (h7 : n ≤ 700) (ha : N.1 (t + 10) 0 = a) (hb : N.1 (t + 10) 1 = b) (hc0 : N.1 (t + 10) 2 = c) (hd0 : N.1 (t + 10) 3 = d) : ∀ (cs : List Int32) (i : Nat) (l : List Int32) (S : Nat → Int32) (d' : Nat), dpl cs l.length = some d' → l.length ≤ 40 → StL S l → i + cs.length = n → (∀ j, j < cs.length → N.1 r1 (i + j) = trS (cs.getD j 0)) → ∀ fu, cs.length < fu → ∃ S' : Nat → Int32, lop3 fu (l_X11_valueNow_5 t r1 n1 (Int32.ofNat n)) (Int32.ofNat l.length) (Int32.ofNat i) (rset N (t + 11) S) = some (S' 0, rset N (t + 11) S') ∧ StL S' (evl a b c d cs l) ∧ (evl a b c d cs l).length = d' := by
  subst hn1
  intro cs
  induction cs with
  | nil =>
    intro i l S d' hd hl hs hi hc fu hf
    obtain ⟨fu, rfl⟩ : ∃ k, fu = k + 1 := ⟨fu - 1, by have : 0 < fu := hf; omega⟩
    have hi2 : i = n := by simpa using hi
    subst hi2
    refine ⟨S, lop3_inr ?_, hs, by simpa [dpl, evl] using hd⟩
    unfold l_X11_valueNow_5
    rw [if_pos ((i_le (by omega) (by omega)).mpr (Nat.le_refl _)), rset_rd]
  | cons u cs ih =>
    intro i l S d' hd hl hs hi hc fu hf
    obtain ⟨fu, rfl⟩ : ∃ k, fu = k + 1 := ⟨fu - 1, by have : (u :: cs).length < fu := hf; omega⟩
    have hlen : (u :: cs).length = cs.length + 1 := rfl
    have hin : i < n := by omega
    have hlt : ¬ Int32.ofNat n ≤ Int32.ofNat i := fun h => by
      have := (i_le (by omega) (by omega)).mp h
      omega
    have hI := i_rng (k := i) (n := 1400) (by omega) (by decide)
    have eI := i_add1 (show i + 1 < 2 ^ 31 by omega)
    have hu : (rset N (t + 11) S).1 r1 (Int32.ofNat i).toNatClampNeg = trS u := by
      rw [i_nn (by omega), rset_ne hr]
      exact hc 0 (by omega)
    have hQ : ∀ j, (rset N (t + 11) S).1 (t + 10) j = N.1 (t + 10) j := fun j => rset_ne (by omega)
    have hc2 : ∀ j, j < cs.length → N.1 r1 (i + 1 + j) = trS (cs.getD j 0) := fun j hj => by
      have := hc (j + 1) (by omega)
      rw [show i + 1 + j = i + (j + 1) by omega, this]
      rfl
    simp only [dpl] at hd
    by_cases h1 : (-5 : Int32) ≤ u
    · by_cases h2 : u = -5
      · subst h2
        rw [if_pos h1, if_pos rfl] at hd
        by_cases h3 : 1 ≤ l.length
        · rw [if_pos h3] at hd
          cases l with
          | nil => exact absurd h3 (by decide)
          | cons x l =>
            have hq : (x :: l).length = l.length + 1 := rfl
            have e1 := mv_not (M := rset N (t + 11) S) (t := t) (r1 := r1) (n1 := 1400) (x2 := Int32.ofNat n) (i_sub1 (show l.length + 1 < 2 ^ 31 by omega)) eI hlt hI hu (i_rng (by omega) (by decide))
            have hx : S l.length = x := hs.1
            rw [i_nn (by omega), wi_rset, rset_rd, hx] at e1
            obtain ⟨S', g1, g2, g3⟩ := ih (i + 1) ((if x = 0 then 1 else 0) :: l) (rup S l.length (if x = 0 then 1 else 0)) d' hd hl (StL.push hs.2) (by omega) hc2 fu (by omega)
            refine ⟨S', ?_, g2, g3⟩
            rw [hq, lop3_inl e1]
            exact g1
        · rw [if_neg h3] at hd
          cases hd
      · rw [if_pos h1, if_neg h2] at hd
        by_cases h3 : l.length < 40
        · rw [if_pos h3] at hd
          rw [(tr_hi h1 h2).1] at hu
          have e1 := mv_push (M := rset N (t + 11) S) (t := t) (r1 := r1) (n1 := 1400) (x2 := Int32.ofNat n) (v := pv a b c d u) (i_add1 (show l.length + 1 < 2 ^ 31 by omega)) eI hlt hI hu (tr_hi h1 h2).2 (i_rng (by omega) (by decide))
            (fun h => by
              have h9 := pk_ok (Q := (rset N (t + 11) S).1 (t + 10)) h1 h2 h ((hQ 0).trans ha) ((hQ 1).trans hb) ((hQ 2).trans hc0) ((hQ 3).trans hd0)
              unfold pv
              rw [if_pos h]
              exact h9)
            (fun h => by unfold pv; rw [if_neg h])
          rw [i_nn (by omega), wi_rset] at e1
          obtain ⟨S', g1, g2, g3⟩ := ih (i + 1) (pv a b c d u :: l) (rup S l.length (pv a b c d u)) d' hd h3 (StL.push hs) (by omega) hc2 fu (by omega)
          have hev : ev1 a b c d u l = pv a b c d u :: l := by unfold ev1; rw [if_pos h1, if_neg h2]
          refine ⟨S', ?_, by simpa only [evl, hev] using g2, by simpa only [evl, hev] using g3⟩
          rw [lop3_inl e1]
          exact g1
        · rw [if_neg h3] at hd
          cases hd
    · rw [if_neg h1] at hd
      by_cases h3 : -13 ≤ u.toInt ∧ 2 ≤ l.length
      · rw [if_pos h3] at hd
        cases l with
        | nil => exact absurd h3.2 (by simp)
        | cons y l =>
          cases l with
          | nil => exact absurd h3.2 (by simp)
          | cons x l =>
            have hq : (y :: x :: l).length = l.length + 1 + 1 := rfl
            have e1 := mv_bin (M := rset N (t + 11) S) (t := t) (r1 := r1) (n1 := 1400) (x2 := Int32.ofNat n) (i_addm1 (show l.length + 1 + 1 < 2 ^ 31 by omega)) (i_sub1 (show l.length + 1 < 2 ^ 31 by omega)) eI hlt hI hu h1 h3.1 (i_rng (by omega) (by decide)) (i_rng (by omega) (by decide))
            have hy : S (l.length + 1) = y := hs.1
            have hx : S l.length = x := hs.2.1
            rw [i_nn (by omega), i_nn (by omega), wi_rset, rset_rd, rset_rd, hx, hy] at e1
            obtain ⟨S', g1, g2, g3⟩ := ih (i + 1) (combC u x y :: l) (rup S l.length (combC u x y)) d' hd (by have h9 : (combC u x y :: l).length = l.length + 1 := rfl; omega) (StL.push hs.2.2) (by omega) hc2 fu (by omega)
            have hev : ev1 a b c d u (y :: x :: l) = combC u x y :: l := by unfold ev1; rw [if_neg h1]; rfl
            refine ⟨S', ?_, by simpa only [evl, hev] using g2, by simpa only [evl, hev] using g3⟩
            rw [hq, lop3_inl e1]
            exact g1
      · rw [if_neg h3] at hd
        cases hd
theorem e_mvalue {N : Mem} {t r1 : Nat} {cs : List Int32} (hr : ¬ r1 = t + 11) (h7 : cs.length ≤ 700) (hc : ∀ j, j < cs.length → N.1 r1 j = trS (cs.getD j 0)) (hd : dpl cs 0 = some 1) : ∃ S' : Nat → Int32, f_X11_valueNow t r1 1400 (Int32.ofNat cs.length) N = some (valS cs (N.1 (t + 10) 0) (N.1 (t + 10) 1) (N.1 (t + 10) 2) (N.1 (t + 10) 3), rset N (t + 11) S') := by
  obtain ⟨S', g1, g2, g3⟩ := m_run (n1 := 1400) hr rfl h7 rfl rfl rfl rfl cs 0 [] (N.1 (t + 11)) 1 hd (by decide) trivial (by simp) (fun j hj => by rw [Nat.zero_add]; exact hc j hj) FU (by unfold FU; omega)
  rw [rset_get] at g1
  refine ⟨S', ?_⟩
  unfold f_X11_valueNow valS
  rw [← StL_0 g2 g3]
  exact g1
