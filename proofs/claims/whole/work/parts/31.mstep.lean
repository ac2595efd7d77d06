/-! The model's steps on its row. -/
theorem m_spot {N : Mem} {t : Nat} {r : Nat → Int32} {z : Int32} (hz : N.1 (t + 3) 0 = z) (hz0 : ¬ z = 0) : f_X11_spotNow t (rset N (t + 8) r) = some (r 14 / z, rset N (t + 8) r) := by
  unfold f_X11_spotNow
  rw [rset_ne (show ¬ t + 3 = t + 8 by omega), hz, rset_rd]
  exact gdp_eq hz0
def begR (z p s : Int32) (r : Nat → Int32) : Nat → Int32 := rup (rup (rup (rup (rup (rup (rup (rup (rup r 14 (z * (p - p / 64 * 64))) 8 1) 16 p) 15 (z * (p - p / 64 * 64))) 17 (p - p / 64 * 64)) 18 (p - p / 64 * 64)) 19 s) 20 0) 21 0
def ahR (z p : Int32) (r : Nat → Int32) : Int32 := (((p - p / 64 * 64) - (r 14 / z - r 14 / z / 64 * 64)) + 64) - (((p - p / 64 * 64) - (r 14 / z - r 14 / z / 64 * 64)) + 64) / 64 * 64
def takR (z p s : Int32) (r : Nat → Int32) : Nat → Int32 :=
  if (((p - p / 64 * 64) - (r 14 / z - r 14 / z / 64 * 64)) + 64) - (((p - p / 64 * 64) - (r 14 / z - r 14 / z / 64 * 64)) + 64) / 64 * 64 < 32 then
    if (((p - p / 64 * 64) - (r 14 / z - r 14 / z / 64 * 64)) + 64) - (((p - p / 64 * 64) - (r 14 / z - r 14 / z / 64 * 64)) + 64) / 64 * 64 < 16 then
      let sp := r 14 / z + ((((p - p / 64 * 64) - (r 14 / z - r 14 / z / 64 * 64)) + 64) - (((p - p / 64 * 64) - (r 14 / z - r 14 / z / 64 * 64)) + 64) / 64 * 64)
      let r1 := rup (rup r ((153 : Int32) + (p - p / 64 * 64)).toNatClampNeg p) ((217 : Int32) + (p - p / 64 * 64)).toNatClampNeg sp
      if r1 18 < sp then
        let r2 := rup r1 21 (sp - r1 17)
        let r3 := rup r2 20 (r2 20 + ((s - r2 19) &&& 255))
        rup (rup r3 18 sp) 19 s
      else r1
    else rup r 5 (r 5 + 1)
  else rup r 4 (r 4 + 1)
theorem idx_rng {n c : Int32} {a : Int} (hc : c.toInt = a) (h0 : 0 ≤ a) (h1 : a ≤ 1000) (hn : 0 ≤ n.toInt) (hn2 : n.toInt < 128) : (c + n).toInt = a + n.toInt := by
  rw [ti_add (by omega) (by omega), hc]
theorem m_come {N : Mem} {t : Nat} {r : Nat → Int32} {z p s : Int32} (hz : N.1 (t + 3) 0 = z) (hz0 : ¬ z = 0) (hp : 0 ≤ p.toInt) : f_X11_come t p s (rset N (t + 8) r) = some ((), rset N (t + 8) (takR z p s (if r 8 = 0 then begR z p s r else r))) := by
  refine Wp.eq ?_
  have hn := ti_rem (a := p) (b := 64) hp (by decide)
  have e64 : (64 : Int32).toInt = 64 := rfl
  rw [e64] at hn
  have hr1 : 0 ≤ ((153 : Int32) + (p - p / 64 * 64)).toInt ∧ ((153 : Int32) + (p - p / 64 * 64)).toInt < ((665 : Nat) : Int) := by
    rw [idx_rng (a := 153) rfl (by decide) (by decide) (by omega) (by omega)]
    omega
  have hr2 : 0 ≤ ((217 : Int32) + (p - p / 64 * 64)).toInt ∧ ((217 : Int32) + (p - p / 64 * 64)).toInt < ((665 : Nat) : Int) := by
    rw [idx_rng (a := 217) rfl (by decide) (by decide) (by omega) (by omega)]
    omega
  unfold f_X11_come
  refine Wp.nam ?_
  refine Wp.j1 ?_
  refine Wp.br (fun h => ?_) (fun h => ?_)
  · rw [rset_rd] at h
    rw [if_pos h]
    refine Wp.nam (Wp.nam (Wp.nam (Wp.nam (Wp.nam (Wp.nam (Wp.nam (Wp.nam (Wp.nam ?_))))))))
    have hm : wi (wi (wi (wi (wi (wi (wi (wi (wi (rset N (t + 8) r) (t + 8) 14 ((rset N (t + 8) r).1 (t + 3) 0 * (p - p / 64 * 64))) (t + 8) 8 1) (t + 8) 16 p) (t + 8) 15 ((wi (wi (wi (rset N (t + 8) r) (t + 8) 14 ((rset N (t + 8) r).1 (t + 3) 0 * (p - p / 64 * 64))) (t + 8) 8 1) (t + 8) 16 p).1 (t + 8) 14)) (t + 8) 17 (p - p / 64 * 64)) (t + 8) 18 (p - p / 64 * 64)) (t + 8) 19 s) (t + 8) 20 0) (t + 8) 21 0 = rset N (t + 8) (begR z p s r) := by
      simp only [wi_rset, rset_rd, rset_ne (show ¬ t + 3 = t + 8 by omega), hz]
      rfl
    rw [hm]
    generalize begR z p s r = r
    refine Wp.cl (m_spot hz hz0) ?_
    refine Wp.nam ?_
    refine Wp.br (fun h1 => ?_) (fun h1 => ?_)
    · refine Wp.br (fun h2 => ?_) (fun h2 => ?_)
      · refine Wp.cl (m_spot hz hz0) ?_
        refine Wp.nam ?_
        refine Wp.gi hr1 ?_
        refine Wp.nam ?_
        refine Wp.gi hr2 ?_
        refine Wp.nam ?_
        refine Wp.br (fun h3 => ?_) (fun h3 => ?_)
        · refine Wp.nam (Wp.nam (Wp.nam (Wp.nam ?_)))
          refine Wp.ret ?_
          simp only [wi_rset, rset_rd] at h3 ⊢
          simp only [takR, if_pos h1, if_pos h2, if_pos h3]
        · refine Wp.ret ?_
          simp only [wi_rset, rset_rd] at h3 ⊢
          simp only [takR, if_pos h1, if_pos h2, if_neg h3]
      · refine Wp.nam (Wp.ret ?_)
        simp only [wi_rset, rset_rd]
        simp only [takR, if_pos h1, if_neg h2]
    · refine Wp.nam (Wp.ret ?_)
      simp only [wi_rset, rset_rd]
      simp only [takR, if_neg h1]
  · rw [rset_rd] at h
    rw [if_neg h]
    refine Wp.cl (m_spot hz hz0) ?_
    refine Wp.nam ?_
    refine Wp.br (fun h1 => ?_) (fun h1 => ?_)
    · refine Wp.br (fun h2 => ?_) (fun h2 => ?_)
      · refine Wp.cl (m_spot hz hz0) ?_
        refine Wp.nam ?_
        refine Wp.gi hr1 ?_
        refine Wp.nam ?_
        refine Wp.gi hr2 ?_
        refine Wp.nam ?_
        refine Wp.br (fun h3 => ?_) (fun h3 => ?_)
        · refine Wp.nam (Wp.nam (Wp.nam (Wp.nam ?_)))
          refine Wp.ret ?_
          simp only [wi_rset, rset_rd] at h3 ⊢
          simp only [takR, if_pos h1, if_pos h2, if_pos h3]
        · refine Wp.ret ?_
          simp only [wi_rset, rset_rd] at h3 ⊢
          simp only [takR, if_pos h1, if_pos h2, if_neg h3]
      · refine Wp.nam (Wp.ret ?_)
        simp only [wi_rset, rset_rd]
        simp only [takR, if_pos h1, if_neg h2]
    · refine Wp.nam (Wp.ret ?_)
      simp only [wi_rset, rset_rd]
      simp only [takR, if_neg h1]
def clrR (r : Nat → Int32) (a b : Nat) : Nat → Int32 := fun j => if a ≤ j ∧ j < b then 0 else r j
def comR (z p s : Int32) (r : Nat → Int32) : Nat → Int32 := takR z p s (if r 8 = 0 then begR z p s r else r)
def kepR (r : Nat → Int32) (i k : Nat) : Nat → Int32 := rup (rup (rup r (33 + 3 * k) (r (33 + 3 * i))) (33 + 3 * k + 1) (r (33 + 3 * i + 1))) (33 + 3 * k + 2) (r (33 + 3 * i + 2))
def rcvR (z : Int32) (m : Nat) : Nat → Nat → Nat → (Nat → Int32) → (Nat → Int32)
  | 0, k, _, r => rup (clrR r (33 + 3 * k) (33 + 3 * m)) 31 (Int32.ofNat k)
  | n + 1, k, i, r => if r 0 < r (33 + 3 * i + 1) then rcvR z m n (k + 1) (i + 1) (kepR r i k) else rcvR z m n k (i + 1) (comR z (r (33 + 3 * i)) (r (33 + 3 * i + 2)) r)
theorem i_33 {k : Nat} : (33 : Int32) + (3 : Int32) * Int32.ofNat k = Int32.ofNat (33 + 3 * k) := by
  rw [Int32.add_comm]
  have h : Int32.ofNat 3 * Int32.ofNat k + Int32.ofNat 33 = Int32.ofNat (3 * k + 33) := i_lin
  rw [Nat.add_comm] at h
  exact h
theorem i_ad {a k : Nat} : Int32.ofNat a + Int32.ofNat k = Int32.ofNat (a + k) := Int32.ofNat_add a k |>.symm
theorem i_ad1 {a : Nat} : Int32.ofNat a + 1 = Int32.ofNat (a + 1) := i_ad (k := 1)
theorem i_ad2 {a : Nat} : Int32.ofNat a + 2 = Int32.ofNat (a + 2) := i_ad (k := 2)
theorem clr_loop {N : Mem} {t m k : Nat} (hm : m ≤ 40) : ∀ (n i fu : Nat) (r : Nat → Int32), i + n = 33 + 3 * m → n < fu → lop2 fu (l_X11_receive_137 t (Int32.ofNat m) (Int32.ofNat k)) (Int32.ofNat i) (rset N (t + 8) r) = some (.inr ((), rset N (t + 8) (rup (clrR r i (33 + 3 * m)) 31 (Int32.ofNat k)))) := by
  intro n
  induction n with
  | zero =>
    intro i fu r hi hf
    obtain ⟨fu, rfl⟩ : ∃ q, fu = q + 1 := ⟨fu - 1, by omega⟩
    obtain rfl : i = 33 + 3 * m := by omega
    refine Wp.eq (Wp.l2 ?_)
    unfold l_X11_receive_137
    rw [i_33]
    refine Wp.ps ((i_le (by omega) (by omega)).mpr (Nat.le_refl _)) ?_
    refine Wp.nam (Wp.ret ?_)
    rw [wi_rset]
    have : clrR r (33 + 3 * m) (33 + 3 * m) = r := funext fun j => by unfold clrR; rw [if_neg (by omega)]
    rw [this]
    rfl
  | succ n ih =>
    intro i fu r hi hf
    obtain ⟨fu, rfl⟩ : ∃ q, fu = q + 1 := ⟨fu - 1, by omega⟩
    have e : l_X11_receive_137 t (Int32.ofNat m) (Int32.ofNat k) (Int32.ofNat i) (rset N (t + 8) r) = some (.inl (Int32.ofNat (i + 1), rset N (t + 8) (rup r i 0))) := by
      refine Wp.eq ?_
      unfold l_X11_receive_137
      rw [i_33]
      refine Wp.ng (fun h => by have := (i_le (by omega) (by omega)).mp h; omega) ?_
      refine Wp.gi (i_rng (by omega) (by decide)) ?_
      refine Wp.nam (Wp.nam (Wp.ret ?_))
      rw [wi_rset, i_nn (by omega), i_ad1]
    rw [lop2_inl e, ih (i + 1) fu _ (by omega) (by omega)]
    have : clrR (rup r i 0) (i + 1) (33 + 3 * m) = clrR r i (33 + 3 * m) := funext fun j => by
      unfold clrR rup
      by_cases h1 : j = i
      · subst h1
        rw [if_neg (by omega), if_pos rfl, if_pos (by omega)]
      · by_cases h2 : i ≤ j ∧ j < 33 + 3 * m
        · rw [if_pos (by omega), if_pos h2]
        · rw [if_neg (by omega), if_neg h1, if_neg h2]
    rw [this]
theorem tak_o {z p s : Int32} {r : Nat → Int32} {j : Nat} (hp : 0 ≤ p.toInt) (hj : j = 0 ∨ (22 ≤ j ∧ j < 153)) : takR z p s r j = r j := by
  have hn := ti_rem (a := p) (b := 64) hp (by decide)
  have e64 : (64 : Int32).toInt = 64 := rfl
  rw [e64] at hn
  have h1 : ((153 : Int32) + (p - p / 64 * 64)).toNatClampNeg ≥ 153 := by
    unfold Int32.toNatClampNeg
    rw [idx_rng (a := 153) rfl (by decide) (by decide) (by omega) (by omega)]
    omega
  have h2 : ((217 : Int32) + (p - p / 64 * 64)).toNatClampNeg ≥ 217 := by
    unfold Int32.toNatClampNeg
    rw [idx_rng (a := 217) rfl (by decide) (by decide) (by omega) (by omega)]
    omega
  unfold takR
  split
  · split
    · simp only []
      split
      · rw [rup_o (by omega), rup_o (by omega), rup_o (by omega), rup_o (by omega), rup_o (by omega), rup_o (by omega)]
      · rw [rup_o (by omega), rup_o (by omega)]
    · rw [rup_o (by omega)]
  · rw [rup_o (by omega)]
theorem com_oR {z p s : Int32} {r : Nat → Int32} {j : Nat} (hp : 0 ≤ p.toInt) (hj : j = 0 ∨ (22 ≤ j ∧ j < 153)) : comR z p s r j = r j := by
  unfold comR
  rw [tak_o hp hj]
  split
  · unfold begR
    rw [rup_o (by omega), rup_o (by omega), rup_o (by omega), rup_o (by omega), rup_o (by omega), rup_o (by omega), rup_o (by omega), rup_o (by omega), rup_o (by omega)]
  · rfl
theorem m_rcv {N : Mem} {t m : Nat} {z : Int32} (hz : N.1 (t + 3) 0 = z) (hz0 : ¬ z = 0) (hm : m ≤ 40) : ∀ (n k i fu : Nat) (r : Nat → Int32), i + n = m → k ≤ i → n < fu → (∀ j, i ≤ j → j < m → 0 ≤ (r (33 + 3 * j)).toInt) → lop3 fu (l_X11_receive_12 t (Int32.ofNat m)) (Int32.ofNat k) (Int32.ofNat i) (rset N (t + 8) r) = some ((), rset N (t + 8) (rcvR z m n k i r)) := by
  intro n
  induction n with
  | zero =>
    intro k i fu r hi hk hf hp
    obtain ⟨fu, rfl⟩ : ∃ q, fu = q + 1 := ⟨fu - 1, by omega⟩
    refine lop3_inr ?_
    unfold l_X11_receive_12
    rw [if_pos ((i_le (by omega) (by omega)).mpr (by omega)), i_33]
    exact clr_loop hm (33 + 3 * m - (33 + 3 * k)) (33 + 3 * k) FU r (by omega) (by unfold FU; omega)
  | succ n ih =>
    intro k i fu r hi hk hf hp
    obtain ⟨fu, rfl⟩ : ∃ q, fu = q + 1 := ⟨fu - 1, by omega⟩
    have hpi := hp i (Nat.le_refl _) (by omega)
    unfold rcvR
    by_cases h : r 0 < r (33 + 3 * i + 1)
    · rw [if_pos h]
      have e : l_X11_receive_12 t (Int32.ofNat m) (Int32.ofNat k) (Int32.ofNat i) (rset N (t + 8) r) = some (.inl (Int32.ofNat (k + 1), Int32.ofNat (i + 1), rset N (t + 8) (kepR r i k))) := by
        refine Wp.eq ?_
        unfold l_X11_receive_12
        refine Wp.ng (fun h => by have := (i_le (by omega) (by omega)).mp h; omega) ?_
        rw [i_33, i_33]
        refine Wp.nam ?_
        rw [i_ad1, i_ad2]
        refine Wp.gi (i_rng (by omega) (by decide)) ?_
        refine Wp.nam ?_
        refine Wp.gi (i_rng (by omega) (by decide)) ?_
        refine Wp.nam ?_
        refine Wp.gi (i_rng (by omega) (by decide)) ?_
        refine Wp.nam ?_
        refine Wp.j2 ?_
        refine Wp.ps (by rw [rset_rd, rset_rd, i_nn (by omega)]; exact h) ?_
        refine Wp.gi (i_rng (by omega) (by decide)) ?_
        refine Wp.nam ?_
        rw [i_ad1, i_ad2]
        refine Wp.gi (i_rng (by omega) (by decide)) ?_
        refine Wp.nam ?_
        refine Wp.gi (i_rng (by omega) (by decide)) ?_
        refine Wp.nam (Wp.nam (Wp.nam (Wp.ret ?_)))
        simp only [wi_rset, rset_rd, i_ad1]
        rw [i_nn (show 33 + 3 * k < 2 ^ 31 by omega), i_nn (show 33 + 3 * k + 1 < 2 ^ 31 by omega), i_nn (show 33 + 3 * k + 2 < 2 ^ 31 by omega), i_nn (show 33 + 3 * i < 2 ^ 31 by omega), i_nn (show 33 + 3 * i + 1 < 2 ^ 31 by omega), i_nn (show 33 + 3 * i + 2 < 2 ^ 31 by omega)]
        rfl
      rw [lop3_inl e]
      refine ih (k + 1) (i + 1) fu _ (by omega) (by omega) (by omega) (fun j h1 h2 => ?_)
      unfold kepR
      rw [rup_o (by omega), rup_o (by omega), rup_o (by omega)]
      exact hp j (by omega) h2
    · rw [if_neg h]
      have e : l_X11_receive_12 t (Int32.ofNat m) (Int32.ofNat k) (Int32.ofNat i) (rset N (t + 8) r) = some (.inl (Int32.ofNat k, Int32.ofNat (i + 1), rset N (t + 8) (comR z (r (33 + 3 * i)) (r (33 + 3 * i + 2)) r))) := by
        refine Wp.eq ?_
        unfold l_X11_receive_12
        refine Wp.ng (fun h => by have := (i_le (by omega) (by omega)).mp h; omega) ?_
        rw [i_33]
        refine Wp.nam ?_
        rw [i_ad1, i_ad2]
        refine Wp.gi (i_rng (by omega) (by decide)) ?_
        refine Wp.nam ?_
        refine Wp.gi (i_rng (by omega) (by decide)) ?_
        refine Wp.nam ?_
        refine Wp.gi (i_rng (by omega) (by decide)) ?_
        refine Wp.nam ?_
        refine Wp.j2 ?_
        refine Wp.ng (by rw [rset_rd, rset_rd, i_nn (by omega)]; exact h) ?_
        rw [rset_rd, rset_rd, i_nn (show 33 + 3 * i < 2 ^ 31 by omega), i_nn (show 33 + 3 * i + 2 < 2 ^ 31 by omega)]
        refine Wp.cl (m_come hz hz0 hpi) ?_
        refine Wp.nam ?_
        rw [i_ad1]
        exact Wp.ret rfl
      rw [lop3_inl e]
      refine ih k (i + 1) fu _ (by omega) (by omega) (by omega) (fun j h1 h2 => ?_)
      rw [com_oR hpi (Or.inr (by omega))]
      exact hp j (by omega) h2
theorem m_receive {N : Mem} {t m : Nat} {z : Int32} {r : Nat → Int32} (hz : N.1 (t + 3) 0 = z) (hz0 : ¬ z = 0) (hm : m ≤ 40) (hr : r 31 = Int32.ofNat m) (hp : ∀ j, j < m → 0 ≤ (r (33 + 3 * j)).toInt) : f_X11_receive t (rset N (t + 8) r) = some ((), rset N (t + 8) (rcvR z m m 0 0 r)) := by
  unfold f_X11_receive nm
  rw [rset_rd, hr]
  exact m_rcv hz hz0 hm m 0 0 FU r (by omega) (Nat.le_refl _) (by unfold FU; omega) (fun j _ h => hp j h)
