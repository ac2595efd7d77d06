/-! The model plays an OCTET. -/
def octN (N : Mem) (t : Nat) (x : Int32) : Int32 := ((N.1 (t + 4) (x - x / N.1 (t + 3) 7 * N.1 (t + 3) 7).toNatClampNeg) + x) &&& 255
theorem m_oct {N : Mem} {t : Nat} {r : Nat → Int32} {x : Int32} (hw : 0 < (N.1 (t + 3) 7).toInt) (hw16 : (N.1 (t + 3) 7).toInt ≤ 16) (hx : 0 ≤ x.toInt) : f_X11_octetOf t x (rset N (t + 8) r) = some (octN N t x, rset N (t + 8) r) := by
  refine Wp.eq ?_
  unfold f_X11_octetOf
  rw [rset_ne (show ¬ t + 3 = t + 8 by omega), rset_ne (show ¬ t + 4 = t + 8 by omega)]
  have hn := ti_rem (a := x) hx hw
  have h4 := Int.emod_nonneg x.toInt (show (N.1 (t + 3) 7).toInt ≠ 0 by omega)
  have h5 := Int.emod_lt_of_pos x.toInt hw
  refine Wp.gp (fun e => by rw [e] at hw; exact absurd hw (by decide)) ?_
  refine Wp.gi (by rw [hn]; omega) ?_
  exact Wp.ret rfl
def pbR (n : Int32) (r : Nat → Int32) : Int32 := if n ≤ r 6 then r ((409 : Int32) + ((r 6 - n) - (r 6 - n) / 128 * 128)).toNatClampNeg else 126
def filR (f : Int32) (r : Nat → Int32) : Int32 := if r 28 = 1 then 126 else pbR (if r 28 = 0 then 1 else f) r
theorem m_fil {N : Mem} {t : Nat} {r : Nat → Int32} (hf : 0 ≤ (N.1 (t + 3) 6).toInt) (h6 : 0 ≤ (r 6).toInt) : f_X11_filler t (rset N (t + 8) r) = some (filR (N.1 (t + 3) 6) r, rset N (t + 8) r) := by
  refine Wp.eq ?_
  have hpb : ∀ n : Int32, 0 ≤ n.toInt → f_X11_playedBack t n (rset N (t + 8) r) = some (pbR n r, rset N (t + 8) r) := fun n hn => by
    refine Wp.eq ?_
    unfold f_X11_playedBack pbR
    refine Wp.j1 ?_
    rw [rset_rd]
    refine Wp.br (fun h => ?_) (fun h => ?_)
    · have h1 := Int32.le_iff_toInt_le.mp h
      refine Wp.gi (rem128 (a := 409) rfl (by decide) (by decide) (by have := ti_rng (r 6); rw [ti_sub (by omega) (by omega)]; omega)) ?_
      rw [if_pos h, rset_rd]
      exact Wp.ret rfl
    · rw [if_neg h]
      exact Wp.ret rfl
  unfold f_X11_filler filR
  rw [rset_rd]
  refine Wp.br (fun h => ?_) (fun h => ?_)
  · rw [if_pos h]
    exact Wp.ret rfl
  · rw [if_neg h]
    refine Wp.j1 ?_
    refine Wp.br (fun h2 => ?_) (fun h2 => ?_)
    · refine Wp.cl (hpb 1 (by decide)) ?_
      rw [if_pos h2]
      exact Wp.ret rfl
    · rw [rset_ne (show ¬ t + 3 = t + 8 by omega)]
      refine Wp.cl (hpb _ hf) ?_
      rw [if_neg h2]
      exact Wp.ret rfl
theorem io_ge {x : Int32} (hx : 0 ≤ x.toInt) : 409 ≤ ((409 : Int32) + (x - x / 128 * 128)).toNatClampNeg ∧ ((409 : Int32) + (x - x / 128 * 128)).toNatClampNeg < 537 := by
  have hn := ti_rem (a := x) (b := 128) hx (by decide)
  have e : (128 : Int32).toInt = 128 := rfl
  rw [e] at hn
  unfold Int32.toNatClampNeg
  rw [idx_rng (a := 409) rfl (by decide) (by omega) (by omega) (by omega)]
  omega
theorem ib_ge {x : Int32} (hx : 0 ≤ x.toInt) : 537 ≤ ((537 : Int32) + (x - x / 128 * 128)).toNatClampNeg ∧ ((537 : Int32) + (x - x / 128 * 128)).toNatClampNeg < 665 := by
  have hn := ti_rem (a := x) (b := 128) hx (by decide)
  have e : (128 : Int32).toInt = 128 := rfl
  rw [e] at hn
  unfold Int32.toNatClampNeg
  rw [idx_rng (a := 537) rfl (by decide) (by omega) (by omega) (by omega)]
  omega
def pl4 (o w f : Int32) (q : Int32 → Int32) (r : Nat → Int32) : Nat → Int32 :=
  let r1 := rup r 13 (r 13 + w)
  let r2 := rup r1 7 (r1 7 + f)
  let r3 := rup r2 30 (q (r2 30))
  rup r3 ((409 : Int32) + (r3 6 - r3 6 / 128 * 128)).toNatClampNeg o
def pl7 (o w f : Int32) (q : Int32 → Int32) (g : Int32) (r : Nat → Int32) : Nat → Int32 :=
  let r4 := pl4 o w f q r
  let r5 := rup r4 ((537 : Int32) + (r4 6 - r4 6 / 128 * 128)).toNatClampNeg g
  let r6 := rup r5 6 (r5 6 + 1)
  rup r6 14 (r6 14 + 1)
def plR (o w f : Int32) (q : Int32 → Int32) (g : Int32) (r : Nat → Int32) : Nat → Int32 :=
  if 64 ≤ pl7 o w f q g r 30 then empR (rup (rup (rup (pl7 o w f q g r) 30 0) 8 0) 12 (rup (rup (pl7 o w f q g r) 30 0) 8 0 12 + 1)) else pl7 o w f q g r
def thR (z : Int32) (r : Nat → Int32) : Prop := ¬ r ((153 : Int32) + (r 14 / z - r 14 / z / 64 * 64)).toNatClampNeg = -1 ∧ r ((217 : Int32) + (r 14 / z - r 14 / z / 64 * 64)).toNatClampNeg = r 14 / z
def ixR (z : Int32) (r : Nat → Int32) : Int32 := r ((153 : Int32) + (r 14 / z - r 14 / z / 64 * 64)).toNatClampNeg * z + (r 14 - r 14 / z * z)
def playR (N : Mem) (t : Nat) (z : Int32) (r : Nat → Int32) [Decidable (thR z r)] : Nat → Int32 :=
  if thR z r then plR (octN N t (ixR z r)) (if octN N t (ixR z r) = octN N t (r 16 * z + r 14 - r 15) then 0 else 1) 0 (fun _ => 0) 0 r
  else plR (filR (N.1 (t + 3) 6) r) 0 1 (fun v => v + 1) 1 r
theorem m_play {N : Mem} {t : Nat} {r : Nat → Int32} {z : Int32} [Decidable (thR z r)] (hz : N.1 (t + 3) 0 = z) (hz0 : 0 < z.toInt) (hw : 0 < (N.1 (t + 3) 7).toInt) (hw16 : (N.1 (t + 3) 7).toInt ≤ 16) (hf : 0 ≤ (N.1 (t + 3) 6).toInt) (h6 : 0 ≤ (r 6).toInt) (h14 : 0 ≤ (r 14).toInt) (hsh : 0 ≤ (r 16 * z + r 14 - r 15).toInt) (hix : thR z r → 0 ≤ (ixR z r).toInt) : f_X11_play t (rset N (t + 8) r) = some ((), rset N (t + 8) (playR N t z r)) := by
  have hzn : ¬ z = 0 := fun e => by rw [e] at hz0; exact absurd hz0 (by decide)
  have hsp := ti_div (a := r 14) h14 hz0
  have hsp0 : 0 ≤ (r 14 / z).toInt := by rw [hsp]; exact Int.ediv_nonneg h14 (by omega)
  have hn := ti_rem (a := r 14 / z) (b := 64) hsp0 (by decide)
  have e64 : (64 : Int32).toInt = 64 := rfl
  rw [e64] at hn
  have hr1 : 0 ≤ ((153 : Int32) + (r 14 / z - r 14 / z / 64 * 64)).toInt ∧ ((153 : Int32) + (r 14 / z - r 14 / z / 64 * 64)).toInt < ((665 : Nat) : Int) := by
    rw [idx_rng (a := 153) rfl (by decide) (by decide) (by omega) (by omega)]
    omega
  have hr2 : 0 ≤ ((217 : Int32) + (r 14 / z - r 14 / z / 64 * 64)).toInt ∧ ((217 : Int32) + (r 14 / z - r 14 / z / 64 * 64)).toInt < ((665 : Nat) : Int) := by
    rw [idx_rng (a := 217) rfl (by decide) (by decide) (by omega) (by omega)]
    omega
  refine Wp.eq ?_
  unfold f_X11_play
  refine Wp.cl (m_spot hz hzn) ?_
  refine Wp.nam ?_
  refine Wp.gi hr1 ?_
  refine Wp.j2 (Wp.j1 ?_)
  refine Wp.br (fun g1 => ?_) (fun g1 => ?_)
  · rw [rset_rd] at g1
    have hth : ¬ thR z r := fun h => h.1 g1
    refine Wp.j2 ?_
    refine Wp.ps rfl ?_
    refine Wp.cl (m_fil hf h6) ?_
    refine Wp.cl (m_oct hw hw16 (by rw [rset_rd, rset_ne (show ¬ t + 3 = t + 8 by omega), hz, rset_rd, rset_rd]; exact hsh)) ?_
    refine Wp.j1 (Wp.j0 ?_)
    refine Wp.ps rfl ?_
    refine Wp.nam (Wp.j1 ?_)
    refine Wp.ps rfl ?_
    refine Wp.nam (Wp.j1 ?_)
    refine Wp.ps rfl ?_
    refine Wp.nam ?_
    rw [wi_rset, wi_rset, wi_rset]
    refine Wp.gi (by rw [rset_rd, rup_o (by omega), rup_o (by omega), rup_o (by omega)]; exact rem128 (a := 409) rfl (by decide) (by decide) h6) ?_
    refine Wp.nam (Wp.j1 ?_)
    refine Wp.ps rfl ?_
    rw [wi_rset]
    refine Wp.gi (by rw [rset_rd, rup_o (by rw [rset_rd, rup_o (by omega), rup_o (by omega), rup_o (by omega)]; have := io_ge h6; omega), rup_o (by omega), rup_o (by omega), rup_o (by omega)]; exact rem128 (a := 537) rfl (by decide) (by decide) h6) ?_
    refine Wp.nam (Wp.nam (Wp.nam ?_))
    rw [wi_rset, wi_rset, wi_rset]
    refine Wp.br (fun h9 => ?_) (fun h9 => ?_)
    · refine Wp.nam (Wp.nam (Wp.nam ?_))
      rw [wi_rset, wi_rset, wi_rset]
      refine Wp.cl m_empty (Wp.ret ?_)
      simp only [rset_rd, rset_ne (show ¬ t + 3 = t + 8 by omega), hz] at h9 ⊢
      rw [playR, if_neg hth]
      exact congrArg (fun g => ((), rset N (t + 8) g)) (if_pos h9).symm
    · refine Wp.ret ?_
      simp only [rset_rd, rset_ne (show ¬ t + 3 = t + 8 by omega), hz] at h9 ⊢
      rw [playR, if_neg hth]
      exact congrArg (fun g => ((), rset N (t + 8) g)) (if_neg h9).symm
  · rw [rset_rd] at g1
    refine Wp.gi hr2 ?_
    refine Wp.cl (m_spot hz hzn) ?_
    refine Wp.br (fun g2 => ?_) (fun g2 => ?_)
    · rw [rset_rd] at g2
      have hth : thR z r := ⟨g1, g2⟩
      refine Wp.j2 ?_
      refine Wp.ng (by decide) ?_
      refine Wp.gi hr1 ?_
      refine Wp.gp (by rw [rset_ne (show ¬ t + 3 = t + 8 by omega), hz]; exact hzn) ?_
      refine Wp.cl (m_oct hw hw16 (by rw [rset_rd, rset_rd, rset_ne (show ¬ t + 3 = t + 8 by omega), hz]; exact hix hth)) ?_
      refine Wp.cl (m_oct hw hw16 (by rw [rset_rd, rset_ne (show ¬ t + 3 = t + 8 by omega), hz, rset_rd, rset_rd]; exact hsh)) ?_
      refine Wp.j1 (Wp.j0 ?_)
      refine Wp.ng (by decide) ?_
      refine Wp.br (fun h0 => ?_) (fun h0 => ?_)
      · refine Wp.nam (Wp.j1 ?_)
        refine Wp.ng (by decide) ?_
        refine Wp.nam (Wp.j1 ?_)
        refine Wp.ng (by decide) ?_
        refine Wp.nam ?_
        rw [wi_rset, wi_rset, wi_rset]
        refine Wp.gi (by rw [rset_rd, rup_o (by omega), rup_o (by omega), rup_o (by omega)]; exact rem128 (a := 409) rfl (by decide) (by decide) h6) ?_
        refine Wp.nam (Wp.j1 ?_)
        refine Wp.ng (by decide) ?_
        rw [wi_rset]
        refine Wp.gi (by rw [rset_rd, rup_o (by rw [rset_rd, rup_o (by omega), rup_o (by omega), rup_o (by omega)]; have := io_ge h6; omega), rup_o (by omega), rup_o (by omega), rup_o (by omega)]; exact rem128 (a := 537) rfl (by decide) (by decide) h6) ?_
        refine Wp.nam (Wp.nam (Wp.nam ?_))
        rw [wi_rset, wi_rset, wi_rset]
        refine Wp.br (fun h9 => ?_) (fun h9 => ?_)
        · refine Wp.nam (Wp.nam (Wp.nam ?_))
          rw [wi_rset, wi_rset, wi_rset]
          refine Wp.cl m_empty (Wp.ret ?_)
          simp only [rset_rd, rset_ne (show ¬ t + 3 = t + 8 by omega), hz] at h9 h0 ⊢
          rw [playR, if_pos hth, ixR, if_pos h0]
          exact congrArg (fun g => ((), rset N (t + 8) g)) (if_pos h9).symm
        · refine Wp.ret ?_
          simp only [rset_rd, rset_ne (show ¬ t + 3 = t + 8 by omega), hz] at h9 h0 ⊢
          rw [playR, if_pos hth, ixR, if_pos h0]
          exact congrArg (fun g => ((), rset N (t + 8) g)) (if_neg h9).symm
      · refine Wp.nam (Wp.j1 ?_)
        refine Wp.ng (by decide) ?_
        refine Wp.nam (Wp.j1 ?_)
        refine Wp.ng (by decide) ?_
        refine Wp.nam ?_
        rw [wi_rset, wi_rset, wi_rset]
        refine Wp.gi (by rw [rset_rd, rup_o (by omega), rup_o (by omega), rup_o (by omega)]; exact rem128 (a := 409) rfl (by decide) (by decide) h6) ?_
        refine Wp.nam (Wp.j1 ?_)
        refine Wp.ng (by decide) ?_
        rw [wi_rset]
        refine Wp.gi (by rw [rset_rd, rup_o (by rw [rset_rd, rup_o (by omega), rup_o (by omega), rup_o (by omega)]; have := io_ge h6; omega), rup_o (by omega), rup_o (by omega), rup_o (by omega)]; exact rem128 (a := 537) rfl (by decide) (by decide) h6) ?_
        refine Wp.nam (Wp.nam (Wp.nam ?_))
        rw [wi_rset, wi_rset, wi_rset]
        refine Wp.br (fun h9 => ?_) (fun h9 => ?_)
        · refine Wp.nam (Wp.nam (Wp.nam ?_))
          rw [wi_rset, wi_rset, wi_rset]
          refine Wp.cl m_empty (Wp.ret ?_)
          simp only [rset_rd, rset_ne (show ¬ t + 3 = t + 8 by omega), hz] at h9 h0 ⊢
          rw [playR, if_pos hth, ixR, if_neg h0]
          exact congrArg (fun g => ((), rset N (t + 8) g)) (if_pos h9).symm
        · refine Wp.ret ?_
          simp only [rset_rd, rset_ne (show ¬ t + 3 = t + 8 by omega), hz] at h9 h0 ⊢
          rw [playR, if_pos hth, ixR, if_neg h0]
          exact congrArg (fun g => ((), rset N (t + 8) g)) (if_neg h9).symm
    · rw [rset_rd] at g2
      have hth : ¬ thR z r := fun h => g2 h.2
      refine Wp.j2 ?_
      refine Wp.ps rfl ?_
      refine Wp.cl (m_fil hf h6) ?_
      refine Wp.cl (m_oct hw hw16 (by rw [rset_rd, rset_ne (show ¬ t + 3 = t + 8 by omega), hz, rset_rd, rset_rd]; exact hsh)) ?_
      refine Wp.j1 (Wp.j0 ?_)
      refine Wp.ps rfl ?_
      refine Wp.nam (Wp.j1 ?_)
      refine Wp.ps rfl ?_
      refine Wp.nam (Wp.j1 ?_)
      refine Wp.ps rfl ?_
      refine Wp.nam ?_
      rw [wi_rset, wi_rset, wi_rset]
      refine Wp.gi (by rw [rset_rd, rup_o (by omega), rup_o (by omega), rup_o (by omega)]; exact rem128 (a := 409) rfl (by decide) (by decide) h6) ?_
      refine Wp.nam (Wp.j1 ?_)
      refine Wp.ps rfl ?_
      rw [wi_rset]
      refine Wp.gi (by rw [rset_rd, rup_o (by rw [rset_rd, rup_o (by omega), rup_o (by omega), rup_o (by omega)]; have := io_ge h6; omega), rup_o (by omega), rup_o (by omega), rup_o (by omega)]; exact rem128 (a := 537) rfl (by decide) (by decide) h6) ?_
      refine Wp.nam (Wp.nam (Wp.nam ?_))
      rw [wi_rset, wi_rset, wi_rset]
      refine Wp.br (fun h9 => ?_) (fun h9 => ?_)
      · refine Wp.nam (Wp.nam (Wp.nam ?_))
        rw [wi_rset, wi_rset, wi_rset]
        refine Wp.cl m_empty (Wp.ret ?_)
        simp only [rset_rd, rset_ne (show ¬ t + 3 = t + 8 by omega), hz] at h9 ⊢
        rw [playR, if_neg hth]
        exact congrArg (fun g => ((), rset N (t + 8) g)) (if_pos h9).symm
      · refine Wp.ret ?_
        simp only [rset_rd, rset_ne (show ¬ t + 3 = t + 8 by omega), hz] at h9 ⊢
        rw [playR, if_neg hth]
        exact congrArg (fun g => ((), rset N (t + 8) g)) (if_neg h9).symm
