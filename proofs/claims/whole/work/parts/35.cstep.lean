/-! The class's step as a function of its world. -/
theorem rset_W {M : Mem} {w q : Nat} {c : CW} {S : Nat → Int32} (h : ¬ (w ≤ q ∧ q < w + 12)) : rset (setW M w c) q S = setW (rset M q S) w c := by
  refine Mem.ext' (fun b j => ?_) rfl
  simp only [rset, setW]
  by_cases hb : b = q
  · subst hb
    rw [if_pos rfl, if_neg h, if_pos rfl]
  · rw [if_neg hb, if_neg hb]
def LineC (M : Mem) (r : Nat) (L : LN) : Prop := (∀ k, k < 8 → M.1 r k = L.1 k) ∧ (∀ k : Nat, k < 16 ∧ (k = 0 ∨ (k : Int) < (L.1 7).toInt) → M.1 (r + 1) k = L.2.1 k) ∧ Rul M (r + 2) L.2.2.1 ∧ Rul M (r + 5) L.2.2.2
def VC (r : Nat) (M M' : Mem) : Prop := (∀ b k, ¬ b = r + 4 → ¬ b = r + 7 → M'.1 b k = M.1 b k) ∧ M'.2 = M.2
theorem VC.rf {r : Nat} {M : Mem} : VC r M M := ⟨fun _ _ _ _ => rfl, rfl⟩
theorem VC.tr {r : Nat} {M M1 M2 : Mem} (h1 : VC r M M1) (h2 : VC r M1 M2) : VC r M M2 := ⟨fun b k a1 a2 => (h2.1 b k a1 a2).trans (h1.1 b k a1 a2), h2.2.trans h1.2⟩
theorem VC.rs4 {r : Nat} {M : Mem} {S : Nat → Int32} : VC r M (rset M (r + 4) S) := ⟨fun _ _ a1 _ => rset_ne a1, rfl⟩
theorem VC.rs7 {r : Nat} {M : Mem} {S : Nat → Int32} : VC r M (rset M (r + 7) S) := ⟨fun _ _ _ a2 => rset_ne a2, rfl⟩
theorem LineC.vc {r : Nat} {M M' : Mem} {L : LN} (h : LineC M r L) (hv : VC r M M') : LineC M' r L := by
  obtain ⟨h1, h2, ⟨h3, h4, h5⟩, h6, h7, h8⟩ := h
  refine ⟨fun k hk => ?_, fun k hk => ?_, ⟨?_, h4, fun j hj => ?_⟩, ?_, h7, fun j hj => ?_⟩
  · rw [hv.1 _ _ (by omega) (by omega)]; exact h1 k hk
  · rw [hv.1 _ _ (by omega) (by omega)]; exact h2 k hk
  · rw [hv.1 _ _ (by omega) (by omega)]; exact h3
  · rw [hv.1 _ _ (by omega) (by omega)]; exact h5 j hj
  · rw [hv.1 _ _ (by omega) (by omega)]; exact h6
  · rw [hv.1 _ _ (by omega) (by omega)]; exact h8 j hj
theorem LineC.W {r w : Nat} {M : Mem} {L : LN} {c : CW} (h : LineC M r L) (ho : Ow w r 8) : LineC (setW M w c) r L := by
  obtain ⟨h1, h2, ⟨h3, h4, h5⟩, h6, h7, h8⟩ := h
  refine ⟨fun k hk => ?_, fun k hk => ?_, ⟨?_, h4, fun j hj => ?_⟩, ?_, h7, fun j hj => ?_⟩
  · rw [rd_O0 ho (by decide)]; exact h1 k hk
  · rw [rd_O ho (by decide)]; exact h2 k hk
  · rw [rd_O ho (by decide)]; exact h3
  · rw [Nat.add_assoc, rd_O ho (by decide)]; exact h5 j hj
  · rw [rd_O ho (by decide)]; exact h6
  · rw [Nat.add_assoc, rd_O ho (by decide)]; exact h8 j hj
theorem e_told {t : Nat} (M : Mem) : f_X7_isTold t M = some (if M.1 t 1 ≤ 0 then 0 else 1, M) := by
  unfold f_X7_isTold jn1 gdp
  by_cases h : M.1 t 1 ≤ 0 <;> simp [h]
def sndA (d time : Int32) (c1 : CW) : CW :=
  let c3 := cput c1 2 40 (c1 1 8) (c1 1 3)
  let c4 := cput c3 3 40 (c3 1 8) ((time + d) + c3 1 7)
  let c5 := cput c4 4 40 (c4 1 8) (imod time 256)
  uc c5 1 8 (c5 1 8 + 1)
def snd2 (d f time : Int32) (c : CW) : CW :=
  let c2 := if (lostC f c).1 = 0 then sndA d time (lostC f c).2 else uc (lostC f c).2 1 4 ((lostC f c).2 1 4 + 1)
  uc (uc c2 1 5 d) 1 3 (uc c2 1 5 d 1 3 + 1)
def sendC (L : LN) (time : Int32) (c : CW) : CW := snd2 (delV L (c 1 3) time (c 1 5) (c 1 8)) (lstF L (c 1 3) time (c 1 5) (c 1 8)) time c
def kk2 (t : Nat) (x2_ z3 z7 : Int32) (M8 : Mem) : Option (Unit × Mem) := bd (f_X1_isLost t z7 M8) (fun u9 M10 => jn1 (fun M11 => nm (wi M11 t 5 z3) (fun M12 => nm (wi M12 t 3 ((M12.1 t 3) + (1 : Int32))) (fun M13 => some ((), M13)))) (fun J163 => if u9 = 0 then (bd (f_X10_put (t + 1) 40 (M10.1 t 8) (M10.1 t 3) M10) (fun _ M15 => bd (f_X10_put (t + 2) 40 (M15.1 t 8) ((x2_ + z3) + (M15.1 t 7)) M15) (fun _ M17 => bd (f_X10_mod x2_ (256 : Int32) M17) (fun u18 M19 => bd (f_X10_put (t + 3) 40 (M17.1 t 8) u18 M19) (fun _ M21 => nm (wi M21 t 8 ((M21.1 t 8) + (1 : Int32))) (fun M22 => J163 M22)))))) else (nm (wi M10 t 4 ((M10.1 t 4) + (1 : Int32))) (fun M23 => J163 M23))))
theorem e_kk2 {M : Mem} {w : Nat} {c : CW} {time z3 z7 : Int32} : kk2 (w + 1) time z3 z7 (setW M w c) = some ((), setW M w (snd2 z3 z7 time c)) := by
  unfold kk2 snd2
  rw [bd_eq e_lost]
  generalize lostC z7 c = l
  obtain ⟨u, c1⟩ := l
  by_cases h : u = 0
  · simp only [jn1, if_pos h, bd, nm, e_put _ (show 40 < 2 ^ 31 by decide), e_mod, wi_W, rd_W, Nat.reduceLT, Nat.add_assoc, Nat.reduceAdd, aput_W, sndA]
  · simp only [jn1, if_neg h, nm, wi_W, rd_W, Nat.reduceLT]
def kk1 (t r1_ : Nat) (x2_ z3 : Int32) (M4 : Mem) : Option (Unit × Mem) := bd (f_X7_isTold (r1_ + 5) M4) (fun u5 M6 => jn2 (fun z7 M8 => kk2 t x2_ z3 z7 M8) (fun J77 => jn1 (fun M24 => J77 (0 : Int32) M24) (fun J76 => if u5 = 0 then (J76 M6) else (bd (f_X7_value (r1_ + 5) (M6.1 t 3) x2_ (M6.1 t 5) (M6.1 t 8) M6) (fun u25 M26 => if u25 ≤ 0 then (J76 M26) else (J77 (1 : Int32) M26))))))
theorem w_kk1 {M : Mem} {w r : Nat} {c : CW} {L : LN} {time z3 : Int32} (hW : LWf L) (ho : Ow w r 8) (hL : LineC M r L) : Wp (kk1 (w + 1) r time z3 (setW M w c)) (fun q => ∃ M', q.2 = setW M' w (snd2 z3 (lstF L (c 1 3) time (c 1 5) (c 1 8)) time c) ∧ VC r M M') := by
  have hr7 : ¬ (w ≤ r + 7 ∧ r + 7 < w + 12) := by unfold Ow at ho; omega
  have hLW := hL.W (c := c) ho
  obtain ⟨k1, k2, k3, k4⟩ := hLW
  unfold kk1
  refine Wp.cl (e_told _) ?_
  rw [k4.1]
  refine Wp.j2 (Wp.j1 ?_)
  by_cases h0 : L.2.2.2 = []
  · have hl : Int32.ofNat L.2.2.2.length ≤ 0 := (len_0 k4.2.1).mpr (by rw [h0]; rfl)
    rw [if_pos hl]
    refine Wp.ps rfl ?_
    refine Wp.mono ⟨_, e_kk2, rfl⟩ ?_
    rintro q rfl
    exact ⟨M, by unfold lstF; rw [if_pos h0], VC.rf⟩
  · have hl : ¬ Int32.ofNat L.2.2.2.length ≤ 0 := fun h => h0 (List.eq_nil_of_length_eq_zero ((len_0 k4.2.1).mp h))
    rw [if_neg hl]
    refine Wp.ng (by decide) ?_
    obtain ⟨S', e⟩ := e_value (a := (setW M w c).1 (w + 1) 3) (b := time) (c := (setW M w c).1 (w + 1) 5) (d := (setW M w c).1 (w + 1) 8) k4 (hW.2.2.2.2.2.2 h0)
    rw [rset_W (by rw [Nat.add_assoc]; exact hr7)] at e
    refine Wp.cl e ?_
    rw [rd_W (by decide), rd_W (by decide), rd_W (by decide)]
    have hv : VC r M (rset M (r + 5 + 2) S') := VC.rs7
    refine Wp.br (fun h => ?_) (fun h => ?_)
    · refine Wp.mono ⟨_, e_kk2, rfl⟩ ?_
      rintro q rfl
      exact ⟨_, by unfold lstF; rw [if_neg h0, if_pos h], hv⟩
    · refine Wp.mono ⟨_, e_kk2, rfl⟩ ?_
      rintro q rfl
      exact ⟨_, by unfold lstF; rw [if_neg h0, if_neg h], hv⟩
theorem w_send {M : Mem} {w r : Nat} {c : CW} {L : LN} {time : Int32} (hW : LWf L) (ho : Ow w r 8) (hL : LineC M r L) : Wp (f_X1_send (w + 1) r time (setW M w c)) (fun q => ∃ M', q.2 = setW M' w (sendC L time c) ∧ VC r M M') := by
  have hr4 : ¬ (w ≤ r + 4 ∧ r + 4 < w + 12) := by unfold Ow at ho; omega
  have hLW := hL.W (c := c) ho
  obtain ⟨k1, k2, k3, k4⟩ := hLW
  unfold f_X1_send
  refine Wp.cl (e_told _) ?_
  rw [k3.1]
  refine Wp.j2 ?_
  have tl : ∀ (M' : Mem) (z3 : Int32), VC r M M' → z3 = delV L (c 1 3) time (c 1 5) (c 1 8) → Wp (kk1 (w + 1) r time z3 (setW M' w c)) (fun q => ∃ M', q.2 = setW M' w (sendC L time c) ∧ VC r M M') := by
    intro M' z3 hv hz
    refine (w_kk1 hW ho (hL.vc hv)).mono ?_
    rintro q ⟨M2, e, h⟩
    refine ⟨M2, ?_, hv.tr h⟩
    rw [e, hz]
    rfl
  by_cases h0 : L.2.2.1 = []
  · have hl : Int32.ofNat L.2.2.1.length ≤ 0 := (len_0 k3.2.1).mpr (by rw [h0]; rfl)
    rw [if_pos hl]
    refine Wp.ps rfl ?_
    exact tl M 3 VC.rf (by unfold delV; rw [if_pos h0])
  · have hl : ¬ Int32.ofNat L.2.2.1.length ≤ 0 := fun h => h0 (List.eq_nil_of_length_eq_zero ((len_0 k3.2.1).mp h))
    rw [if_neg hl]
    refine Wp.ng (by decide) ?_
    obtain ⟨S', e⟩ := e_value (a := (setW M w c).1 (w + 1) 3) (b := time) (c := (setW M w c).1 (w + 1) 5) (d := (setW M w c).1 (w + 1) 8) k3 (hW.2.2.2.2.2.1 h0)
    rw [rset_W (by rw [Nat.add_assoc]; exact hr4)] at e
    refine Wp.cl e ?_
    refine Wp.cl (e_within _ _ _ _) ?_
    rw [rd_W (by decide), rd_W (by decide), rd_W (by decide)]
    have hv : VC r M (rset M (r + 2 + 2) S') := VC.rs4
    exact tl _ _ hv (by unfold delV; rw [if_neg h0])
def octC (L : LN) (time : Int32) (c : CW) : CW :=
  let c1 := uc c 1 1 (c 1 1 - 1000)
  let c2 := uc c1 1 2 (c1 1 2 + 1)
  if imod (c2 1 2) (L.1 0) = 0 then sendC L time c2 else c2
theorem w_oct {M : Mem} {w r : Nat} {c : CW} {L : LN} {time : Int32} (hW : LWf L) (ho : Ow w r 8) (hL : LineC M r L) : Wp (f_X1_makeOctet (w + 1) r time (setW M w c)) (fun q => ∃ M', q.2 = setW M' w (octC L time c) ∧ VC r M M') := by
  unfold f_X1_makeOctet
  refine Wp.nam (Wp.nam ?_)
  rw [rd_W (by decide), wi_W (by decide), rd_W (by decide), wi_W (by decide), rd_O0 ho (by decide), hL.1 0 (by decide), rd_W (by decide)]
  refine Wp.cl (e_mod _ _ _) ?_
  refine Wp.j1 ?_
  unfold octC
  refine Wp.br (fun h => ?_) (fun h => ?_)
  · refine Wp.bnd ((w_send hW ho hL).mono ?_)
    rintro ⟨_, N⟩ ⟨M2, e, hv⟩
    refine Wp.ret ⟨M2, ?_, hv⟩
    rw [if_pos h]
    exact e
  · refine Wp.ret ⟨M, ?_, VC.rf⟩
    rw [if_neg h]
def mkC (L : LN) (time : Int32) : Nat → CW → CW
  | 0, c => c
  | n + 1, c => if c 1 1 < 1000 then c else mkC L time n (octC L time c)
def ply2C (M : Mem) (r : Nat) : Nat → CW → CW
  | 0, c => c
  | n + 1, c => if c 5 0 = 2 then (if c 5 5 < 1000 then c else ply2C M r n (playC M r c)) else c
def tailC (M : Mem) (r : Nat) (c : CW) : CW :=
  let c1 := rcvC (M.1 r 0) (c 1 8).toInt.toNat 0 0 c
  let c2 := steC (M.1 r 0) (M.1 r 4) (c1 0 0) c1
  let c3 := nclkC (c2 1 0) c2
  let c4 := ply2C M r 2 c3
  uc c4 0 0 (c4 0 0 + 1)
theorem i2_lt {k : Nat} (hk : k < 2) : ¬ (2 : Int32) ≤ Int32.ofNat k := i64_lt (n := 2) (by decide) hk
theorem w_ply {M : Mem} {w r : Nat} (ho : Ow w r 8) : ∀ (n k fu : Nat) (c : CW), k + n = 2 → n < fu → lop2 fu (l_X9_step_78 w r) (Int32.ofNat k) (setW M w c) = some (.inr ((), setW M w (uc (ply2C M r n c) 0 0 (ply2C M r n c 0 0 + 1)))) := by
  intro n
  induction n with
  | zero =>
    intro k fu c hk hf
    obtain ⟨fu, rfl⟩ : ∃ q, fu = q + 1 := ⟨fu - 1, by omega⟩
    obtain rfl : k = 2 := by omega
    refine lop2_inr (Wp.eq ?_)
    unfold l_X9_step_78
    refine Wp.j1 ?_
    refine Wp.ps (by decide) ?_
    refine Wp.nam (Wp.ret ?_)
    rw [wi_W0, rd_W0]
    rfl
  | succ n ih =>
    intro k fu c hk hf
    obtain ⟨fu, rfl⟩ : ∃ q, fu = q + 1 := ⟨fu - 1, by omega⟩
    unfold ply2C
    by_cases h1 : c 5 0 = 2
    · by_cases h2 : c 5 5 < 1000
      · rw [if_pos h1, if_pos h2]
        refine lop2_inr (Wp.eq ?_)
        unfold l_X9_step_78
        refine Wp.j1 ?_
        refine Wp.ng (i2_lt (by omega)) ?_
        refine Wp.cl e_ndue ?_
        rw [if_pos h1, if_pos h2]
        refine Wp.ps rfl ?_
        refine Wp.nam (Wp.ret ?_)
        rw [wi_W0, rd_W0]
      · rw [if_pos h1, if_neg h2]
        have e : l_X9_step_78 w r (Int32.ofNat k) (setW M w c) = some (.inl (Int32.ofNat (k + 1), setW M w (playC M r c))) := by
          refine Wp.eq ?_
          unfold l_X9_step_78
          refine Wp.j1 ?_
          refine Wp.ng (i2_lt (by omega)) ?_
          refine Wp.cl e_ndue ?_
          rw [if_pos h1, if_neg h2]
          refine Wp.ng (by decide) ?_
          refine Wp.cl (e_play ho) ?_
          refine Wp.nam ?_
          rw [i_ad1]
          exact Wp.ret rfl
        rw [lop2_inl e]
        exact ih (k + 1) fu _ (by omega) (by omega)
    · rw [if_neg h1]
      refine lop2_inr (Wp.eq ?_)
      unfold l_X9_step_78
      refine Wp.j1 ?_
      refine Wp.ng (i2_lt (by omega)) ?_
      refine Wp.cl e_ndue ?_
      rw [if_neg h1]
      refine Wp.ps rfl ?_
      refine Wp.nam (Wp.ret ?_)
      rw [wi_W0, rd_W0]
theorem w_tail {M : Mem} {w r : Nat} {c : CW} (ho : Ow w r 8) (h8 : 0 ≤ (c 1 8).toInt ∧ (c 1 8).toInt ≤ 40) : Wp (bd (f_X9_receiveDue w ((setW M w c).1 r 0) (setW M w c)) (fun _ M7 => bd (f_X5_steer (w + 5) r (M7.1 w 0) M7) (fun _ M9 => bd (f_X5_runClock (w + 5) (M9.1 (w + 1) 0) M9) (fun _ M11 => lop2 FU (l_X9_step_78 w r) (0 : Int32) M11)))) (fun q => q = .inr ((), setW M w (tailC M r c))) := by
  have hn : c 1 8 = Int32.ofNat (0 + (c 1 8).toInt.toNat) := by rw [Nat.zero_add]; exact nat_of h8.1
  have e1 : f_X9_receiveDue w (M.1 r 0) (setW M w c) = some ((), setW M w (rcvC (M.1 r 0) (c 1 8).toInt.toNat 0 0 c)) := e_rcv (M := M) (w := w) (z := M.1 r 0) (c 1 8).toInt.toNat 0 0 c hn (by omega) (Nat.le_refl _) FU (by unfold FU; omega)
  rw [rd_O0 ho (by decide)]
  refine Wp.cl e1 ?_
  rw [rd_W0]
  refine Wp.cl (e_steer ho) ?_
  rw [rd_W (by decide)]
  refine Wp.cl e_nclk ?_
  exact ⟨_, w_ply ho 2 0 FU _ (by omega) (by unfold FU; omega), rfl⟩
def stepC (L : LN) (M : Mem) (r : Nat) (c : CW) : CW := tailC M r (mkC L (c 0 0) 2 (clkC c))
theorem lostC_o {f : Int32} {c : CW} {d k : Nat} (hd : ¬ d = 1) : (lostC f c).2 d k = c d k := by
  unfold lostC
  by_cases h1 : c 1 12 ≤ 0
  · by_cases h2 : c 1 6 ≤ 0
    · simp only [if_pos h1, if_pos h2]
    · simp only [if_pos h1, if_neg h2, uc, hd, false_and, if_false]
  · by_cases h3 : c 1 13 &&& 1 = 0
    · simp only [if_neg h1, if_pos h3, uc, hd, false_and, if_false]
    · simp only [if_neg h1, if_neg h3, uc, hd, false_and, if_false]
theorem oct_00 {L : LN} {time : Int32} {c : CW} : octC L time c 0 0 = c 0 0 := by
  have h2 : ∀ (d f : Int32) (c : CW), snd2 d f time c 0 0 = c 0 0 := fun d f c => by
    have hl : (lostC f c).2 0 0 = c 0 0 := lostC_o (by decide)
    unfold snd2
    split
    · simp only [sndA, uc]
      simp [cput_o, hl]
    · simp [uc, hl]
  unfold octC
  split
  · unfold sendC
    rw [h2]
    simp [uc]
  · simp [uc]
theorem w_step {M : Mem} {w r : Nat} {c : CW} {L : LN} (hW : LWf L) (ho : Ow w r 8) (hL : LineC M r L) (h8 : ∀ c', c' = mkC L (c 0 0) 2 (clkC c) → 0 ≤ (c' 1 8).toInt ∧ (c' 1 8).toInt ≤ 40) : Wp (f_X9_step w r (setW M w c)) (fun q => ∃ M', q.2 = setW M' w (stepC L M r c) ∧ VC r M M') := by
  unfold f_X9_step
  refine Wp.cl e_clk ?_
  have key : ∀ (n k fu : Nat) (M1 : Mem) (c1 : CW), VC r M M1 → k + n = 2 → n < fu → mkC L (c 0 0) n c1 = mkC L (c 0 0) 2 (clkC c) → c1 0 0 = c 0 0 → Wp (lop2 fu (l_X9_step_9 w r) (Int32.ofNat k) (setW M1 w c1)) (fun q => ∃ M', q.2 = setW M' w (stepC L M r c) ∧ VC r M M') := by
    have fin : ∀ (M1 : Mem) (c1 : CW) (fu : Nat) (P : (Int32 × Mem) ⊕ (Unit × Mem) → Prop), (∀ M', VC r M M' → P (.inr ((), setW M' w (stepC L M r c)))) → VC r M M1 → c1 = mkC L (c 0 0) 2 (clkC c) → Wp (bd (f_X9_receiveDue w ((setW M1 w c1).1 r 0) (setW M1 w c1)) (fun _ M7 => bd (f_X5_steer (w + 5) r (M7.1 w 0) M7) (fun _ M9 => bd (f_X5_runClock (w + 5) (M9.1 (w + 1) 0) M9) (fun _ M11 => lop2 FU (l_X9_step_78 w r) (0 : Int32) M11)))) P := by
      intro M1 c1 fu P hP hv hc
      refine (w_tail (M := M1) (c := c1) ho (h8 c1 hc)).mono ?_
      rintro q rfl
      have ht : tailC M1 r c1 = stepC L M r c := by
        have e0 : ∀ k, M1.1 r k = M.1 r k := fun k => hv.1 r k (by omega) (by omega)
        have eo : ∀ x, octL M1 r x = octL M r x := fun x => by
          unfold octL aget
          rw [e0, hv.1 (r + 1) _ (by omega) (by omega)]
        have ep : ∀ c, playC M1 r c = playC M r c := fun c => by
          unfold playC
          simp only [e0, eo]
        have ep2 : ∀ n c, ply2C M1 r n c = ply2C M r n c := fun n => by
          induction n with
          | zero => intro c; rfl
          | succ n ih => intro c; simp only [ply2C, ep, ih]
        unfold stepC tailC
        simp only [e0, ep2, hc]
      rw [ht]
      exact hP M1 hv
    intro n
    induction n with
    | zero =>
      intro k fu M1 c1 hv hk hf hm h0
      obtain ⟨fu, rfl⟩ : ∃ q, fu = q + 1 := ⟨fu - 1, by omega⟩
      obtain rfl : k = 2 := by omega
      refine Wp.l2 ?_
      unfold l_X9_step_9
      refine Wp.j1 ?_
      refine Wp.ps (by decide) ?_
      exact fin M1 c1 fu _ (fun M' hM => ⟨M', rfl, hM⟩) hv hm
    | succ n ih =>
      intro k fu M1 c1 hv hk hf hm h0
      obtain ⟨fu, rfl⟩ : ∃ q, fu = q + 1 := ⟨fu - 1, by omega⟩
      by_cases h1 : c1 1 1 < 1000
      · refine Wp.l2 ?_
        unfold l_X9_step_9
        refine Wp.j1 ?_
        refine Wp.ng (i2_lt (by omega)) ?_
        refine Wp.cl e_fdue ?_
        rw [if_pos h1]
        refine Wp.ps rfl ?_
        refine fin M1 c1 fu _ (fun M' hM => ⟨M', rfl, hM⟩) hv ?_
        rw [← hm]
        unfold mkC
        rw [if_pos h1]
      · refine Wp.l2 ?_
        have hb : Wp (l_X9_step_9 w r (Int32.ofNat k) (setW M1 w c1)) (fun q => ∃ M', q = .inl (Int32.ofNat (k + 1), setW M' w (octC L (c 0 0) c1)) ∧ VC r M M') := by
          unfold l_X9_step_9
          refine Wp.j1 ?_
          refine Wp.ng (i2_lt (by omega)) ?_
          refine Wp.cl e_fdue ?_
          rw [if_neg h1]
          refine Wp.ng (by decide) ?_
          rw [rd_W0, h0]
          refine Wp.bnd ((w_oct hW ho (hL.vc hv)).mono ?_)
          rintro ⟨_, N⟩ ⟨M2, e, hv2⟩
          refine Wp.nam ?_
          rw [i_ad1]
          replace e : N = setW M2 w (octC L (c 0 0) c1) := e
          exact Wp.ret ⟨M2, by rw [e], hv.tr hv2⟩
        refine hb.mono ?_
        rintro q ⟨M', rfl, hv'⟩
        refine ih (k + 1) fu M' _ hv' (by omega) (by omega) ?_ ?_
        · rw [← hm]
          conv => rhs; unfold mkC
          rw [if_neg h1]
        · rw [oct_00, h0]
  exact key 2 0 FU M (clkC c) VC.rf (by omega) (by unfold FU; omega) rfl (by simp [clkC, uc])
