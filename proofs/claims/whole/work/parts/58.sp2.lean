theorem ti_dec {a : Int32} (h : -2147483648 < a.toInt) : (a + -1).toInt = a.toInt - 1 := by
  have em1 : (-1 : Int32).toInt = -1 := rfl
  have l1 := Int32.toInt_lt a
  rw [ti_add (by rw [em1]; omega) (by rw [em1]; omega), em1]
  rfl
theorem ti_decd {a : Int32} {d : Nat} {c : Int} (h : a.toInt = ((d + 1 : Nat) : Int) - c) (h0 : 0 ≤ c) (h2 : c ≤ 2) : (a + -1).toInt = (d : Int) - c := by
  rw [ti_dec (by omega)]
  omega
theorem ti_incd {a : Int32} {d : Nat} (h : 0 ≤ a.toInt ∧ a.toInt + ((d + 1 : Nat) : Int) ≤ 1000) : (a + 1).toInt = a.toInt + 1 ∧ (0 ≤ (a + 1).toInt ∧ (a + 1).toInt + (d : Int) ≤ 1000) ∧ (0 ≤ a.toInt ∧ a.toInt + (d : Int) ≤ 1000) := by
  have e1 : (1 : Int32).toInt = 1 := rfl
  have e : (a + 1).toInt = a.toInt + 1 := by rw [ti_add (by rw [e1]; omega) (by rw [e1]; omega), e1]
  refine ⟨e, ?_, ?_⟩
  · rw [e]; omega
  · omega
theorem zrng {d : Nat} {k : Int32} (h : 0 ≤ k.toInt ∧ k.toInt + ((d + 1 : Nat) : Int) ≤ 1000) : 0 ≤ (0 : Int32).toInt ∧ (0 : Int32).toInt + (d : Int) ≤ 1000 := by
  have e0 : (0 : Int32).toInt = 0 := rfl
  rw [e0]
  omega
def SpR (M N : Mem) (t : Nat) (a b : Option (Int32 × Mem)) : Prop := (∃ v : Int32, 0 ≤ v.toInt ∧ a = some (v, M) ∧ b = some (v, N)) ∨ (a = some (-1, M) ∧ b = some (0, wi N t 2 1))
theorem SpR.step {M N : Mem} {t : Nat} {a b a' b' : Option (Int32 × Mem)} (h1 : a = a') (h2 : b = b') (h : SpR M N t a' b') : SpR M N t a b := by
  subst h1 h2; exact h
theorem SpR.ok {M N : Mem} {t : Nat} {a b : Option (Int32 × Mem)} {v : Int32} (h0 : 0 ≤ v.toInt) (h1 : a = some (v, M)) (h2 : b = some (v, N)) : SpR M N t a b := Or.inl ⟨v, h0, h1, h2⟩
theorem SpR.no {M N : Mem} {t : Nat} {a b : Option (Int32 × Mem)} (h1 : a = some (-1, M)) (h2 : b = some (0, wi N t 2 1)) : SpR M N t a b := Or.inr ⟨h1, h2⟩
theorem spans_loop {x : Nat} {z p i x1 x2 : Int32} {A B C D : Int} {M N : Mem} (hC : Core z p i A B C D (getW M (x + 19 + 1)) (N.1 (x + 95 + 8))) (hB : (N.1 (x + 95 + 8) 6).toInt ≤ 100000000) : ∀ (d fc fm : Nat) (k4 k5 k6 k9 : Int32), k9.toInt = (d : Int) - 1 → k6.toInt = (d : Int) - 2 → (d : Int) ≤ (imin (N.1 (x + 95 + 8) 6) 128).toInt + 1 → d < fc → d < fm → (0 ≤ k4.toInt ∧ k4.toInt + d ≤ 1000) → (0 ≤ k5.toInt ∧ k5.toInt + d ≤ 1000) → SpR M N (x + 95) (lop4 fc (l_X4_longRows_13 (x + 19 + 1 + 5 + 4) x1 x2) k4 k5 k6 M) (lop3 fm (l_X11_spans_33 (x + 95) x1 x2 N) k4 k5 k9) := by
  have e0 : (0 : Int32).toInt = 0 := rfl
  have e1 : (1 : Int32).toInt = 1 := rfl
  have em1 : (-1 : Int32).toInt = -1 := rfl
  have e128 : (128 : Int32).toInt = 128 := rfl
  have hm := ti_min (a := N.1 (x + 95 + 8) 6) (b := 128)
  rw [e128] at hm
  have hN := hC.2.2.2.2.1
  have p6 : 0 ≤ (N.1 (x + 95 + 8) 6).toInt := by
    unfold gN at hN
    omega
  have hub : (imin (N.1 (x + 95 + 8) 6) 128).toInt ≤ 128 ∧ (imin (N.1 (x + 95 + 8) 6) 128).toInt ≤ (N.1 (x + 95 + 8) 6).toInt := by
    split at hm <;> omega
  clear hm hN
  intro d
  induction d with
  | zero =>
    intro fc fm k4 k5 k6 k9 h9 h6 hd hf1 hf2 h4 h5
    obtain ⟨fc, rfl⟩ : ∃ q, fc = q + 1 := ⟨fc - 1, by omega⟩
    obtain ⟨fm, rfl⟩ : ∃ q, fm = q + 1 := ⟨fm - 1, by omega⟩
    by_cases g : x2 = -1
    · refine SpR.ok h4.1 (lop4_inr' (Wp.eq ?_)) (lop3_inr (Wp.eq ?_))
      · unfold l_X4_longRows_13
        exact Wp.ps (lt_of (by rw [em1]; omega)) (Wp.j1 (Wp.ps g (Wp.ret rfl)))
      · unfold l_X11_spans_33
        exact Wp.ps (lt_of (by rw [e0]; omega)) (Wp.j2 (Wp.ps g (Wp.ret rfl)))
    · refine SpR.no (lop4_inr' (Wp.eq ?_)) (lop3_inr (Wp.eq ?_))
      · unfold l_X4_longRows_13
        exact Wp.ps (lt_of (by rw [em1]; omega)) (Wp.j1 (Wp.ng g (Wp.ret rfl)))
      · unfold l_X11_spans_33
        exact Wp.ps (lt_of (by rw [e0]; omega)) (Wp.j2 (Wp.ng g (Wp.cl e_fail (Wp.ret rfl))))
  | succ d ih =>
    intro fc fm k4 k5 k6 k9 h9 h6 hd hf1 hf2 h4 h5
    obtain ⟨fc, rfl⟩ : ∃ q, fc = q + 1 := ⟨fc - 1, by omega⟩
    obtain ⟨fm, rfl⟩ : ∃ q, fm = q + 1 := ⟨fm - 1, by omega⟩
    have n6 : ¬ k6 < -1 := nlt_of (by rw [em1]; omega)
    have n9 : ¬ k9 < 0 := nlt_of (by rw [e0]; omega)
    have s9 : (k9 + -1).toInt = (d : Int) - 1 := ti_decd h9 (by decide) (by decide)
    have s6 : (k6 + -1).toInt = (d : Int) - 2 := ti_decd h6 (by decide) (by decide)
    have s4 := (ti_incd h4).2
    have s5 := (ti_incd h5).2
    have s0 := zrng h4
    have hd' : (d : Int) ≤ (imin (N.1 (x + 95 + 8) 6) 128).toInt + 1 := by clear s4 s5 s0 s9 s6 h4 h5 h9 h6 hub; omega
    have f1 := Nat.lt_of_succ_lt_succ hf1
    have f2 := Nat.lt_of_succ_lt_succ hf2
    have un : (k6 < 0 ∨ (¬ k6 < 0 ∧ f_X4_latestIsFilled (x + 19 + 1 + 5 + 4) k6 M = some (0, M))) → (∃ k, k9 ≤ 0 ∨ (¬ k9 ≤ 0 ∧ k < 128 ∧ N.1 (x + 95 + 8) 6 - k9 - (N.1 (x + 95 + 8) 6 - k9) / 128 * 128 = Int32.ofNat k ∧ ¬ N.1 (x + 95 + 8) (537 + k) = 1)) → SpR M N (x + 95) (lop4 (fc + 1) (l_X4_longRows_13 (x + 19 + 1 + 5 + 4) x1 x2) k4 k5 k6 M) (lop3 (fm + 1) (l_X11_spans_33 (x + 95) x1 x2 N) k4 k5 k9) := fun hu ⟨k, hv⟩ => by
      have a := lr_un (x1 := x1) (x2 := x2) (k4 := k4) (k5 := k5) n6 hu
      have b := sp_un (x1 := x1) (x2 := x2) (k7 := k4) (k8 := k5) n9 hv
      by_cases g1 : k5 < x1
      · rw [if_pos g1] at a b
        refine SpR.step (lop4_inl' a) (lop3_inl b) ?_
        exact ih fc fm _ _ _ _ s9 s6 hd' f1 f2 s4.2 s0
      · rw [if_neg g1] at a b
        by_cases g2 : k4 = x2
        · rw [if_pos g2] at a b
          exact SpR.ok h5.1 (lop4_inr' a) (lop3_inr b)
        · rw [if_neg g2] at a b
          refine SpR.step (lop4_inl' a) (lop3_inl b) ?_
          exact ih fc fm _ _ _ _ s9 s6 hd' f1 f2 s4.1 s0
    by_cases hd0 : d = 0
    · clear s4 s5 s0 h4 h5 s9 s6 hd' hub ih
      exact un (Or.inl (lt_of (by rw [e0]; omega))) ⟨0, Or.inl (le_of (by rw [e0]; omega))⟩
    · have m6 : ¬ k6 < 0 := nlt_of (by clear s4 s5 s0 h4 h5 s9 s6 hd' hub ih; rw [e0]; omega)
      have m9 : ¬ k9 ≤ 0 := nle_of (by clear s4 s5 s0 h4 h5 s9 s6 hd' hub ih; rw [e0]; omega)
      obtain ⟨k, q1, q2, q3, q4, q5, q6⟩ := oct (M := M) (N := N) (v := k6) hC hB (by clear s4 s5 s0 h4 h5 s9 s6 hd' hub ih; omega) (by clear s4 s5 s0 h4 h5 s9 s6 hd' ih; omega)
      have t2 : N.1 (x + 95 + 8) 6 - 1 - k6 = N.1 (x + 95 + 8) 6 - k9 := by
        clear s4 s5 s0 h4 h5 s9 s6 ih
        have t1 : (N.1 (x + 95 + 8) 6 - 1).toInt = (N.1 (x + 95 + 8) 6).toInt - 1 := by rw [ti_sub (by rw [e1]; omega) (by rw [e1]; omega), e1]
        refine Int32.toInt_inj.mp ?_
        rw [ti_sub (by rw [t1]; omega) (by rw [t1]; omega), t1, ti_sub (by omega) (by omega)]
        omega
      rw [t2] at q3
      rcases q6 with g | g
      · exact un (Or.inr ⟨m6, by rw [← g]; exact q5⟩) ⟨k, Or.inr ⟨m9, q1, q3, by rw [g]; decide⟩⟩
      · rw [g] at q5
        refine SpR.step (lop4_inl' (lr_fi n6 m6 q5)) (lop3_inl (sp_fi n9 m9 q1 q3 g)) ?_
        exact ih fc fm _ _ _ _ s9 s6 hd' f1 f2 s4.2 s5.1
