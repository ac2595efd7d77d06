/-! A world is copied; many STEPS. -/
def rcp (M : Mem) (r1 r2 n : Nat) : Mem := (fun b j => if b = r2 ∧ j < n then M.1 r1 j else M.1 b j, M.2)
theorem e_copyRow {M : Mem} {r1 r2 n : Nat} (hn : n < 100000) : f_X10_copyRow r1 n r2 n M = some ((), rcp M r1 r2 n) := by
  refine Wp.eq ?_
  unfold f_X10_copyRow
  refine Wp.cl (e_min _ _ _) ?_
  have hm : imin (Int32.ofNat n) (Int32.ofNat n) = Int32.ofNat n := by unfold imin; split <;> rfl
  have ht : (Int32.ofNat n).toInt = n := Int32.toInt_ofNat_of_lt (by omega)
  rw [hm]
  have e0 : (0 : Int32).toInt = 0 := rfl
  refine Wp.gp (by rw [e0, ht]; omega) ?_
  refine Wp.nam (Wp.ret ?_)
  have : wcp M r1 r2 0 0 (Int32.ofNat n) = rcp M r1 r2 n := by
    refine Mem.ext' (fun b j => ?_) rfl
    have z0 : (0 : Int32).toNatClampNeg = 0 := rfl
    simp only [wcp, rcp, va_cpy, i_nn (show n < 2 ^ 31 by omega), z0]
    by_cases hb : b = r2
    · subst hb
      by_cases hj : j < n
      · rw [if_pos rfl, if_pos (show 0 ≤ j ∧ j < 0 + n by omega), if_pos (show b = b ∧ j < n from ⟨rfl, hj⟩), Nat.zero_add, Nat.sub_zero]
      · rw [if_pos rfl, if_neg (show ¬ (0 ≤ j ∧ j < 0 + n) by omega), if_neg (show ¬ (b = b ∧ j < n) from fun e => hj e.2)]
    · rw [if_neg hb, if_neg (fun e => hb e.1)]
  rw [this]
def ucr (c : CW) (d n : Nat) (f : Nat → Int32) : CW := fun d' j => if d' = d ∧ j < n then f j else c d' j
theorem rcp_W {M : Mem} {w d n r1 : Nat} {c : CW} {f : Nat → Int32} (hd : d < 12) (hf : ∀ j, (setW M w c).1 r1 j = f j) : rcp (setW M w c) r1 (w + d) n = setW M w (ucr c d n f) := by
  refine Mem.ext' (fun b j => ?_) rfl
  simp only [rcp, hf]
  simp only [setW, ucr]
  by_cases h : w ≤ b ∧ b < w + 12
  · by_cases h2 : b = w + d
    · subst h2
      simp only [Nat.add_sub_cancel_left]
      by_cases h3 : j < n <;> simp [h3, h]
    · have h3 : ¬ b - w = d := by omega
      simp [h, h2, h3]
  · have h2 : ¬ b = w + d := by omega
    simp [h, h2]
def cp6 (s c : CW) : CW := (ucr (ucr (uc (uc (uc (uc (uc (uc (uc (uc (uc c 6 0 (s 6 0)) 6 1 (s 6 1)) 6 2 (s 6 2)) 6 3 (s 6 3)) 6 4 (s 6 4)) 6 5 (s 6 5)) 6 6 (s 6 6)) 6 7 (s 6 7)) 6 8 (s 6 8)) 7 64 (s 7)) 8 64 (s 8))
theorem e_cp6 {M : Mem} {w w0 : Nat} {c : CW} (ho : Ow w w0 12) : f_X0_copyFrom (w + 6) (w0 + 6) (setW M w c) = some ((), setW M w (cp6 (getW M w0) c)) := by
  have rd : ∀ (c : CW) (k : Nat), (setW M w c).1 (w0 + 6) k = getW M w0 6 k := fun c k => rd_O ho (by decide)
  refine Wp.eq ?_
  unfold f_X0_copyFrom
  refine Wp.nam ?_
  rw [rd, wi_W (by decide)]
  refine Wp.nam ?_
  rw [rd, wi_W (by decide)]
  refine Wp.nam ?_
  rw [rd, wi_W (by decide)]
  refine Wp.nam ?_
  rw [rd, wi_W (by decide)]
  refine Wp.nam ?_
  rw [rd, wi_W (by decide)]
  refine Wp.nam ?_
  rw [rd, wi_W (by decide)]
  refine Wp.nam ?_
  rw [rd, wi_W (by decide)]
  refine Wp.nam ?_
  rw [rd, wi_W (by decide)]
  refine Wp.nam ?_
  rw [rd, wi_W (by decide)]
  refine Wp.cl (e_copyRow (by decide)) ?_
  rw [show w0 + 6 + 1 = w0 + 7 by omega, show w + 6 + 1 = w + 7 by omega, rcp_W (d := 7) (f := getW M w0 7) (by decide) (fun j => rd_O ho (by decide))]
  refine Wp.cl (e_copyRow (by decide)) ?_
  rw [show w0 + 6 + 2 = w0 + 8 by omega, show w + 6 + 2 = w + 8 by omega, rcp_W (d := 8) (f := getW M w0 8) (by decide) (fun j => rd_O ho (by decide))]
  exact Wp.ret rfl
def cp9 (s c : CW) : CW := (ucr (ucr (uc (uc (uc (uc (uc c 9 0 (s 9 0)) 9 1 (s 9 1)) 9 2 (s 9 2)) 9 3 (s 9 3)) 9 4 (s 9 4)) 10 128 (s 10)) 11 128 (s 11))
theorem e_cp9 {M : Mem} {w w0 : Nat} {c : CW} (ho : Ow w w0 12) : f_X4_copyFrom (w + 9) (w0 + 9) (setW M w c) = some ((), setW M w (cp9 (getW M w0) c)) := by
  have rd : ∀ (c : CW) (k : Nat), (setW M w c).1 (w0 + 9) k = getW M w0 9 k := fun c k => rd_O ho (by decide)
  refine Wp.eq ?_
  unfold f_X4_copyFrom
  refine Wp.nam ?_
  rw [rd, wi_W (by decide)]
  refine Wp.nam ?_
  rw [rd, wi_W (by decide)]
  refine Wp.nam ?_
  rw [rd, wi_W (by decide)]
  refine Wp.nam ?_
  rw [rd, wi_W (by decide)]
  refine Wp.nam ?_
  rw [rd, wi_W (by decide)]
  refine Wp.cl (e_copyRow (by decide)) ?_
  rw [show w0 + 9 + 1 = w0 + 10 by omega, show w + 9 + 1 = w + 10 by omega, rcp_W (d := 10) (f := getW M w0 10) (by decide) (fun j => rd_O ho (by decide))]
  refine Wp.cl (e_copyRow (by decide)) ?_
  rw [show w0 + 9 + 2 = w0 + 11 by omega, show w + 9 + 2 = w + 11 by omega, rcp_W (d := 11) (f := getW M w0 11) (by decide) (fun j => rd_O ho (by decide))]
  exact Wp.ret rfl
def cp1 (s c : CW) : CW := (ucr (ucr (ucr (uc (uc (uc (uc (uc (uc (uc (uc (uc (uc (uc c 1 0 (s 1 0)) 1 1 (s 1 1)) 1 2 (s 1 2)) 1 3 (s 1 3)) 1 4 (s 1 4)) 1 5 (s 1 5)) 1 6 (s 1 6)) 1 7 (s 1 7)) 1 8 (s 1 8)) 1 12 (s 1 12)) 1 13 (s 1 13)) 2 40 (s 2)) 3 40 (s 3)) 4 40 (s 4))
theorem e_cp1 {M : Mem} {w w0 : Nat} {c : CW} (ho : Ow w w0 12) : f_X1_copyFrom (w + 1) (w0 + 1) (setW M w c) = some ((), setW M w (cp1 (getW M w0) c)) := by
  have rd : ∀ (c : CW) (k : Nat), (setW M w c).1 (w0 + 1) k = getW M w0 1 k := fun c k => rd_O ho (by decide)
  refine Wp.eq ?_
  unfold f_X1_copyFrom
  refine Wp.nam ?_
  rw [rd, wi_W (by decide)]
  refine Wp.nam ?_
  rw [rd, wi_W (by decide)]
  refine Wp.nam ?_
  rw [rd, wi_W (by decide)]
  refine Wp.nam ?_
  rw [rd, wi_W (by decide)]
  refine Wp.nam ?_
  rw [rd, wi_W (by decide)]
  refine Wp.nam ?_
  rw [rd, wi_W (by decide)]
  refine Wp.nam ?_
  rw [rd, wi_W (by decide)]
  refine Wp.nam ?_
  rw [rd, wi_W (by decide)]
  refine Wp.nam ?_
  rw [rd, wi_W (by decide)]
  refine Wp.nam ?_
  rw [rd, wi_W (by decide)]
  refine Wp.nam ?_
  rw [rd, wi_W (by decide)]
  refine Wp.cl (e_copyRow (by decide)) ?_
  rw [show w0 + 1 + 1 = w0 + 2 by omega, show w + 1 + 1 = w + 2 by omega, rcp_W (d := 2) (f := getW M w0 2) (by decide) (fun j => rd_O ho (by decide))]
  refine Wp.cl (e_copyRow (by decide)) ?_
  rw [show w0 + 1 + 2 = w0 + 3 by omega, show w + 1 + 2 = w + 3 by omega, rcp_W (d := 3) (f := getW M w0 3) (by decide) (fun j => rd_O ho (by decide))]
  refine Wp.cl (e_copyRow (by decide)) ?_
  rw [show w0 + 1 + 3 = w0 + 4 by omega, show w + 1 + 3 = w + 4 by omega, rcp_W (d := 4) (f := getW M w0 4) (by decide) (fun j => rd_O ho (by decide))]
  exact Wp.ret rfl
def cp5 (s c : CW) : CW := (cp9 s (cp6 s (uc (uc (uc (uc (uc (uc (uc (uc (uc (uc c 5 0 (s 5 0)) 5 1 (s 5 1)) 5 2 (s 5 2)) 5 3 (s 5 3)) 5 4 (s 5 4)) 5 5 (s 5 5)) 5 6 (s 5 6)) 5 7 (s 5 7)) 5 8 (s 5 8)) 5 9 (s 5 9))))
theorem e_cp5 {M : Mem} {w w0 : Nat} {c : CW} (ho : Ow w w0 12) : f_X5_copyFrom (w + 5) (w0 + 5) (setW M w c) = some ((), setW M w (cp5 (getW M w0) c)) := by
  have rd : ∀ (c : CW) (k : Nat), (setW M w c).1 (w0 + 5) k = getW M w0 5 k := fun c k => rd_O ho (by decide)
  refine Wp.eq ?_
  unfold f_X5_copyFrom
  refine Wp.nam ?_
  rw [rd, wi_W (by decide)]
  refine Wp.nam ?_
  rw [rd, wi_W (by decide)]
  refine Wp.nam ?_
  rw [rd, wi_W (by decide)]
  refine Wp.nam ?_
  rw [rd, wi_W (by decide)]
  refine Wp.nam ?_
  rw [rd, wi_W (by decide)]
  refine Wp.nam ?_
  rw [rd, wi_W (by decide)]
  refine Wp.nam ?_
  rw [rd, wi_W (by decide)]
  refine Wp.nam ?_
  rw [rd, wi_W (by decide)]
  refine Wp.nam ?_
  rw [rd, wi_W (by decide)]
  refine Wp.nam ?_
  rw [rd, wi_W (by decide)]
  refine Wp.cl (e_cp6 ho) ?_
  refine Wp.cl (e_cp9 ho) ?_
  exact Wp.ret rfl
def cp0 (s c : CW) : CW := (cp5 s (cp1 s (uc c 0 0 (s 0 0))))
theorem e_cp0 {M : Mem} {w w0 : Nat} {c : CW} (ho : Ow w w0 12) : f_X9_copyFrom w w0 (setW M w c) = some ((), setW M w (cp0 (getW M w0) c)) := by
  have rd : ∀ (c : CW) (k : Nat), (setW M w c).1 w0 k = getW M w0 0 k := fun c k => rd_O0 ho (by decide)
  refine Wp.eq ?_
  unfold f_X9_copyFrom
  refine Wp.nam ?_
  rw [rd, wi_W0]
  refine Wp.cl (e_cp1 ho) ?_
  refine Wp.cl (e_cp5 ho) ?_
  exact Wp.ret rfl
def lvs : List (Nat × Nat) := [(0, 0), (1, 0), (1, 1), (1, 2), (1, 3), (1, 4), (1, 5), (1, 6), (1, 7), (1, 8), (1, 12), (1, 13), (5, 0), (5, 1), (5, 2), (5, 3), (5, 4), (5, 5), (5, 6), (5, 7), (5, 8), (5, 9), (6, 0), (6, 1), (6, 2), (6, 3), (6, 4), (6, 5), (6, 6), (6, 7), (6, 8), (9, 0), (9, 1), (9, 2), (9, 3), (9, 4)]
def lva : List (Nat × Nat) := [(2, 40), (3, 40), (4, 40), (7, 64), (8, 64), (10, 128), (11, 128)]
/-- alike where it counts -/
def Lv (c c' : CW) : Prop := (∀ q ∈ lvs, c' q.1 q.2 = c q.1 q.2) ∧ ∀ q ∈ lva, ∀ k, k < q.2 → c' q.1 k = c q.1 k
theorem Lv.rf {c : CW} : Lv c c := ⟨fun _ _ => rfl, fun _ _ _ _ => rfl⟩
theorem Lv.tr {a b c : CW} (h1 : Lv a b) (h2 : Lv b c) : Lv a c := ⟨fun q hq => (h2.1 q hq).trans (h1.1 q hq), fun q hq k hk => (h2.2 q hq k hk).trans (h1.2 q hq k hk)⟩
theorem cp0_lv {s c : CW} : Lv s (cp0 s c) := by
  refine ⟨fun q hq => ?_, fun q hq k hk => ?_⟩
  · simp only [lvs, List.mem_cons, List.not_mem_nil, or_false] at hq
    rcases hq with rfl | rfl | rfl | rfl | rfl | rfl | rfl | rfl | rfl | rfl | rfl | rfl | rfl | rfl | rfl | rfl | rfl | rfl | rfl | rfl | rfl | rfl | rfl | rfl | rfl | rfl | rfl | rfl | rfl | rfl | rfl | rfl | rfl | rfl | rfl | rfl <;> simp [cp0, cp1, cp5, cp6, cp9, uc, ucr]
  · simp only [lva, List.mem_cons, List.not_mem_nil, or_false] at hq
    rcases hq with rfl | rfl | rfl | rfl | rfl | rfl | rfl <;> simp only [] at hk <;> simp [cp0, cp1, cp5, cp6, cp9, uc, ucr, hk]
theorem RWd.lv {L : LN} {p i : Int32} {T : Int} {c c' : CW} {r : Nat → Int32} {s sl : Int32} (h : RWd L p i T c r s sl) (hl : Lv c c') : RWd L p i T c' r s sl := by
  obtain ⟨m, ⟨⟨k1, k2, k3, k4, k5, k6, k7, k8, k9, k10, k11, k12, k13⟩, l2, l3, l4, l5, l6, l7⟩, h0⟩ := h
  have g : ∀ d k, (d, k) ∈ lvs → c' d k = c d k := fun d k hq => hl.1 (d, k) hq
  have a : ∀ d n k, (d, n) ∈ lva → k < n → c' d k = c d k := fun d n k hq hk => hl.2 (d, n) hq k hk
  refine ⟨m, ⟨⟨k1.cg (fun q hq => ?_) (fun _ _ => rfl), by rw [g 5 3 (by decide)]; exact k2, by rw [g 5 4 (by decide)]; exact k3, k4, k5, k6, k7, k8, fun k hk => ?_, fun k hk hlt => ?_, fun k hk hlt => ?_, fun h8 => ?_, ?_⟩, l2, l3, fun k hk => ?_, l5, l6, ?_⟩, h0⟩
  · have hm : (scl.all fun q => lvs.contains (q.1, q.2.1)) = true := by decide
    have h1 := List.all_eq_true.mp hm q hq
    exact g _ _ (by simpa using h1)
  · rw [a 7 64 k (by decide) hk, a 8 64 k (by decide) hk]; exact k9 k hk
  · rw [a 10 128 k (by decide) hk]; exact k10 k hk hlt
  · rw [a 11 128 k (by decide) hk]; exact k11 k hk hlt
  · rw [g 6 7 (by decide)]; exact k12 h8
  · unfold aR
    rw [g 9 3 (by decide)]; exact k13
  · rw [a 2 40 k (by decide) (by omega), a 3 40 k (by decide) (by omega), a 4 40 k (by decide) (by omega)]; exact l4 k hk
  · rw [g 1 12 (by decide), g 1 13 (by decide)]; exact l7
/-! a step needs of the line its numbers alone -/
def lm (L : LN) : Mem := (fun b j => if b = 0 then L.1 j else L.2.1 j, fun _ _ => 0, fun _ => 0)
theorem octL_lm {M : Mem} {rr : Nat} {L : LN} {x : Int32} (hL : LineC M rr L) : octL M rr x = octL (lm L) 0 x := by
  unfold octL
  rw [hL.1 7 (by decide)]
  have e7 : (lm L).1 0 7 = L.1 7 := rfl
  rw [e7]
  have ha : aget M (rr + 1) 16 (imod x (L.1 7)) = aget (lm L) (0 + 1) 16 (imod x (L.1 7)) := by
    unfold aget
    by_cases h1 : imod x (L.1 7) < 0
    · rw [if_pos h1, if_pos h1]
    · by_cases h2 : Int32.ofNat 16 ≤ imod x (L.1 7)
      · rw [if_neg h1, if_pos h2, if_neg h1, if_pos h2]
      · rw [if_neg h1, if_neg h2, if_neg h1, if_neg h2]
        have h3 := in_rng (n := 16) (by decide) h1 h2
        have h4 : (imod x (L.1 7)).toNatClampNeg < 16 := by
          unfold Int32.toNatClampNeg
          omega
        have h5 : (imod x (L.1 7)).toNatClampNeg = 0 ∨ (((imod x (L.1 7)).toNatClampNeg : Nat) : Int) < (L.1 7).toInt := by
          have e0 : (0 : Int32).toInt = 0 := rfl
          by_cases g : 0 < L.1 7
          · have g' := Int32.lt_iff_toInt_lt.mp g
            rw [e0] at g'
            have q := ti_mod (a := x) g'
            have q1 := Int.emod_lt_of_pos x.toInt g'
            refine Or.inr ?_
            unfold Int32.toNatClampNeg
            omega
          · refine Or.inl ?_
            have : imod x (L.1 7) = 0 := by
              unfold imod
              rw [if_neg g]
            rw [this]
            rfl
        rw [hL.2.1 _ ⟨h4, h5⟩]
        rfl
  rw [ha]
theorem playC_lm {M : Mem} {rr : Nat} {L : LN} {c : CW} (hL : LineC M rr L) : playC M rr c = playC (lm L) 0 c := by
  unfold playC
  simp only [octL_lm hL]
  rw [hL.1 0 (by decide), hL.1 6 (by decide)]
  rfl
theorem ply2C_lm {M : Mem} {rr : Nat} {L : LN} (hL : LineC M rr L) : ∀ (n : Nat) (c : CW), ply2C M rr n c = ply2C (lm L) 0 n c := by
  intro n
  induction n with
  | zero => intro c; rfl
  | succ n ih => intro c; simp only [ply2C, playC_lm hL, ih]
def stL (L : LN) (c : CW) : CW := stepC L (lm L) 0 c
theorem stepC_lm {M : Mem} {rr : Nat} {L : LN} {c : CW} (hL : LineC M rr L) : stepC L M rr c = stL L c := by
  unfold stL stepC tailC
  simp only [ply2C_lm hL]
  rw [hL.1 0 (by decide), hL.1 4 (by decide)]
  rfl
def itL (L : LN) : Nat → CW → CW
  | 0, c => c
  | n + 1, c => itL L n (stL L c)
def jRet (M1 : Mem) : Option (Unit × Mem) := some ((), M1)
theorem sim_loop {w rr t k : Nat} {L : LN} {p i : Int32} (hW : LWf L) (ho : Ow w rr 8) (hk : k < 100000) : ∀ (n a fc fm : Nat) (M N : Mem) (c : CW) (T : Int), a + n = k → n < fc → n < fm → 0 ≤ T → T + n ≤ 60000 → LineC M rr L → EnvM t N L → N.1 t 24 = p → N.1 t 25 = i → RWd L p i T c (N.1 (t + 8)) (N.1 t 29) (N.1 t 30) → ∃ M' N', lop2 fc (l_X9_apply_39 w rr (Int32.ofNat k) jRet) (Int32.ofNat a) (setW M w c) = some ((), setW M' w (itL L n c)) ∧ VC rr M M' ∧ lop2 fm (l_X11_goOn_2 t (Int32.ofNat k)) (Int32.ofNat a) N = some ((), N') ∧ VM t N N' ∧ EnvM t N' L ∧ RWd L p i (T + n) (itL L n c) (N'.1 (t + 8)) (N'.1 t 29) (N'.1 t 30) ∧ (N.1 t 29 = 0 → N'.1 t 29 = 0) ∧ (N.1 (t + 8) 7).toInt ≤ (N'.1 (t + 8) 7).toInt := by
  intro n
  induction n with
  | zero =>
    intro a fc fm M N c T ha hc hm hT0 hT hL hE hp hi h
    obtain ⟨fc, rfl⟩ : ∃ q, fc = q + 1 := ⟨fc - 1, by omega⟩
    obtain ⟨fm, rfl⟩ : ∃ q, fm = q + 1 := ⟨fm - 1, by omega⟩
    obtain rfl : a = k := by omega
    have hle : Int32.ofNat a ≤ Int32.ofNat a := (i_le (by omega) (by omega)).mpr (Nat.le_refl _)
    refine ⟨M, N, lop2_inr ?_, VC.rf, lop2_inr ?_, VM.rf, hE, ?_, fun g => g, Int.le_refl _⟩
    · unfold l_X9_apply_39
      rw [if_pos hle]
      rfl
    · unfold l_X11_goOn_2
      rw [if_pos hle]
    · have e : T + ((0 : Nat) : Int) = T := by omega
      rw [e]
      exact h
  | succ n ih =>
    intro a fc fm M N c T ha hc hm hT0 hT hL hE hp hi h
    obtain ⟨fc, rfl⟩ : ∃ q, fc = q + 1 := ⟨fc - 1, by omega⟩
    obtain ⟨fm, rfl⟩ : ∃ q, fm = q + 1 := ⟨fm - 1, by omega⟩
    obtain ⟨M1, N1, e1, v1, e2, v2, E1, R1, S1, m7, _⟩ := sim_step hW (show 0 ≤ T ∧ T ≤ 60000 by omega) ho hL hE hp hi h
    rw [stepC_lm hL] at e1 R1
    have b1 : l_X9_apply_39 w rr (Int32.ofNat k) jRet (Int32.ofNat a) (setW M w c) = some (.inl (Int32.ofNat (a + 1), setW M1 w (stL L c))) := by
      refine Wp.eq ?_
      unfold l_X9_apply_39
      refine Wp.ng (i64_lt (by omega) (by omega)) ?_
      refine Wp.cl e1 ?_
      refine Wp.nam ?_
      rw [i_ad1]
      exact Wp.ret rfl
    have b2 : l_X11_goOn_2 t (Int32.ofNat k) (Int32.ofNat a) N = some (.inl (Int32.ofNat (a + 1), N1)) := by
      refine Wp.eq ?_
      unfold l_X11_goOn_2
      refine Wp.ng (i64_lt (by omega) (by omega)) ?_
      refine Wp.cl e2 ?_
      refine Wp.nam ?_
      rw [i_ad1]
      exact Wp.ret rfl
    obtain ⟨M', N', g1, g2, g3, g4, g5, g6, g7, g8⟩ := ih (a + 1) fc fm M1 N1 (stL L c) (T + 1) (by omega) (by omega) (by omega) (by omega) (by omega) (hL.vc v1) E1 (by rw [v2.1 _ _ (by omega) (by omega) (by omega)]; exact hp) (by rw [v2.1 _ _ (by omega) (by omega) (by omega)]; exact hi) R1
    refine ⟨M', N', ?_, v1.tr g2, ?_, v2.tr g4, g5, ?_, fun g => g7 (S1 g), Int.le_trans m7 g8⟩
    · rw [lop2_inl b1]; exact g1
    · rw [lop2_inl b2]; exact g3
    · have e : T + ((n + 1 : Nat) : Int) = T + 1 + (n : Int) := by omega
      rw [e]
      exact g6
theorem sim_go {w rr t k : Nat} {M N : Mem} {L : LN} {p i : Int32} {c : CW} {T : Int} (hW : LWf L) (ho : Ow w rr 8) (hk : k < 100000) (hT0 : 0 ≤ T) (hT : T + k ≤ 60000) (hL : LineC M rr L) (hE : EnvM t N L) (hp : N.1 t 24 = p) (hi : N.1 t 25 = i) (h : RWd L p i T c (N.1 (t + 8)) (N.1 t 29) (N.1 t 30)) : ∃ M' N', f_X9_apply w rr 0 (Int32.ofNat k) (setW M w c) = some ((), setW M' w (itL L k c)) ∧ VC rr M M' ∧ f_X11_goOn t (Int32.ofNat k) N = some ((), N') ∧ VM t N N' ∧ EnvM t N' L ∧ RWd L p i (T + k) (itL L k c) (N'.1 (t + 8)) (N'.1 t 29) (N'.1 t 30) ∧ (N.1 t 29 = 0 → N'.1 t 29 = 0) ∧ (N.1 (t + 8) 7).toInt ≤ (N'.1 (t + 8) 7).toInt := by
  obtain ⟨M', N', g1, g2, g3, g4, g5, g6, g7⟩ := sim_loop hW ho hk k 0 FU FU M N c T (by omega) (by unfold FU; omega) (by unfold FU; omega) hT0 hT hL hE hp hi h
  refine ⟨M', N', ?_, g2, g3, g4, g5, g6, g7⟩
  refine Wp.eq ?_
  unfold f_X9_apply
  refine Wp.j1 ?_
  refine Wp.ng (by decide) ?_
  refine Wp.ps rfl ?_
  exact ⟨_, g1, rfl⟩
