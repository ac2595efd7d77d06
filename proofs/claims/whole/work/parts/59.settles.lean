/-! settles -/
theorem c1_63 : (1 : Int32).toInt64 &&& 63 = 1 := by decide
theorem c40_63 : (40 : Int32).toInt64 &&& 63 = 40 := by decide
theorem bit_push {k4 : Int64} {z : Int32} (hz : z = 0 ∨ z = 1) (j : Nat) : ((k4 <<< ((1 : Int32).toInt64 &&& 63)) ||| z.toInt64).toBitVec.getLsbD (j + 1) = (decide (j + 1 < 64) && k4.toBitVec.getLsbD j) ∧ (((k4 <<< ((1 : Int32).toInt64 &&& 63)) ||| z.toInt64).toBitVec.getLsbD 0 = true ↔ z = 1) := by
  have hb : ((k4 <<< ((1 : Int32).toInt64 &&& 63)) ||| z.toInt64).toBitVec = (k4.toBitVec <<< 1) ||| z.toInt64.toBitVec := by
    rw [c1_63, Int64.toBitVec_or, Int64.toBitVec_shiftLeft]
    rfl
  rw [hb]
  rcases hz with h | h <;> subst h
  · have e : (0 : Int32).toInt64.toBitVec = 0#64 := by decide
    rw [e]
    refine ⟨?_, ?_⟩
    · rw [BitVec.getLsbD_or, BitVec.getLsbD_shiftLeft]
      simp
    · rw [BitVec.getLsbD_or, BitVec.getLsbD_shiftLeft]
      simp
  · have e : (1 : Int32).toInt64.toBitVec = 1#64 := by decide
    rw [e]
    refine ⟨?_, ?_⟩
    · rw [BitVec.getLsbD_or, BitVec.getLsbD_shiftLeft]
      simp [BitVec.getLsbD_one]
    · rw [BitVec.getLsbD_or, BitVec.getLsbD_shiftLeft]
      simp
theorem bit_test {y : Int64} : lg_cmp ((y >>> ((40 : Int32).toInt64 &&& 63)) &&& (1 : Int64)) (0 : Int64) = 0 ↔ ¬ y.toBitVec.getLsbD 40 = true := by
  refine Iff.trans lgc.2.2 ?_
  have hb : ((y >>> ((40 : Int32).toInt64 &&& 63)) &&& (1 : Int64)).toBitVec = (y.toBitVec.sshiftRight 40) &&& 1#64 := by
    rw [c40_63, Int64.toBitVec_and, Int64.toBitVec_shiftRight]
    rfl
  rw [← Int64.toBitVec_inj, hb]
  have hx : (y.toBitVec.sshiftRight 40).getLsbD 0 = y.toBitVec.getLsbD 40 := by
    rw [BitVec.getLsbD_sshiftRight]
    rfl
  constructor
  · intro h g
    have h2 := congrArg (fun v => BitVec.getLsbD v 0) h
    have h3 : (y.toBitVec.sshiftRight 40 &&& 1#64).getLsbD 0 = (Int64.toBitVec 0).getLsbD 0 := h2
    rw [BitVec.getLsbD_and, hx, g] at h3
    exact absurd h3 (by decide)
  · intro g
    apply BitVec.eq_of_getLsbD_eq
    intro i hi
    rw [BitVec.getLsbD_and]
    have g' : y.toBitVec.getLsbD 40 = false := by
      cases e : y.toBitVec.getLsbD 40
      · rfl
      · exact absurd e g
    by_cases h0 : i = 0
    · subst h0
      rw [hx, g']
      rfl
    · have e1 : (1#64).getLsbD i = false := by
        rw [BitVec.getLsbD_one]
        simp [h0]
      have e0 : (Int64.toBitVec 0).getLsbD i = false := BitVec.getLsbD_zero
      rw [e1, e0, Bool.and_false]
/-- bit j of b: what stands j ahead of k -/
def HB (b : Int64) (h : Nat → Int32) (k : Nat) : Prop := ∀ j, j ≤ 40 → j ≤ k → (b.toBitVec.getLsbD j = true ↔ h (k - j) = 1)
theorem HB.push {b : Int64} {h h' : Nat → Int32} {k : Nat} {z : Int32} (hb : HB b h k) (hz : z = 0 ∨ z = 1) (h1 : h' (k + 1) = z) (h2 : ∀ j, j ≤ k → h' j = h j) : HB ((b <<< ((1 : Int32).toInt64 &&& 63)) ||| z.toInt64) h' (k + 1) := by
  intro j hj hk
  cases j with
  | zero => rw [Nat.sub_zero, h1]; exact (bit_push hz 0).2
  | succ j =>
    rw [(bit_push hz j).1]
    have e : k + 1 - (j + 1) = k - j := by omega
    rw [e, h2 _ (by omega), ← hb j (by omega) (by omega)]
    have : j + 1 < 64 := by omega
    simp [this]
theorem i_sbn {a b : Nat} (h : b ≤ a) : Int32.ofNat a - Int32.ofNat b = Int32.ofNat (a - b) := by
  have e : Int32.ofNat a = Int32.ofNat (a - b) + Int32.ofNat b := by
    rw [i_ad]
    congr 1
    omega
  rw [e]
  generalize Int32.ofNat (a - b) = p
  generalize Int32.ofNat b = q
  exact Int32.add_sub_cancel p q
theorem QR.w17 {x : Nat} {L : LN} {p i : Int32} {M N M1 N1 N2 : Mem} {T : Int} (h : QR x L p i M N T M1 N1) (e : ∀ b k, ¬ b = x + 95 + 17 → N2.1 b k = N1.1 b k) (e2 : N2.2 = N1.2) : QR x L p i M N T M1 N2 := by
  obtain ⟨q1, q2, q3, q4, q5, q6, q7, q8⟩ := h
  refine ⟨q1, ⟨fun b k hb => by rw [e _ _ (by omega)]; exact q2.1 b k hb, by rw [e2]; exact q2.2⟩, fun j hj => by rw [e _ _ (by omega)]; exact q3 j hj, q4, q5.cg (fun b k hb => e _ _ (by omega)) (q5.2.2.2.2.cg (funext fun _ => e _ _ (by omega)) (funext fun _ => e _ _ (by omega)) (funext fun _ => e _ _ (by omega))), by rw [e _ _ (by omega)]; exact q6, by rw [e _ _ (by omega)]; exact q7, ?_⟩
  have hr : N2.1 (x + 95 + 8) = N1.1 (x + 95 + 8) := funext fun _ => e _ _ (by omega)
  rw [hr, e _ _ (by omega), e _ _ (by omega)]
  exact q8
theorem e_isNear {x : Nat} {L : LN} {p i : Int32} {M N M1 N1 : Mem} {T : Int} (h : QR x L p i M N T M1 N1) (hW : LWf L) (ha : lineAt x M) (hT : 0 ≤ T ∧ T ≤ 60000) : f_X11_isNear (x + 95) N1 = some (if (2 : Int32) < iabs (levR (L.1 0) (N1.1 (x + 95 + 8)) - N1.1 (x + 95 + 8) 29) then 0 else 1, N1) := by
  refine Wp.eq ?_
  unfold f_X11_isNear
  refine Wp.cl (h.level hW ha hT).2 (Wp.cl (e_abs _ _) (Wp.j1 (Wp.br (fun g => ?_) (fun g => ?_))))
  · exact Wp.gp (Or.inl rfl) (Wp.ret (by rw [if_pos g]))
  · exact Wp.gp (Or.inr rfl) (Wp.ret (by rw [if_neg g]))
theorem i440 {k : Nat} (hk : k ≤ 440) : ¬ (440 : Int32) < Int32.ofNat k := fun g => by
  have := (i_lt (a := 440) (b := k) (by omega) (by omega)).mp g
  omega
theorem settles_loop {x : Nat} {L : LN} {M N : Mem} {T : Int} (hI : Inv2 x L M N) (hT : 0 ≤ T ∧ T ≤ 20000) : ∀ (n k fc fm : Nat) (b : Int64) (c : Nat) (M1 N1 : Mem), k + n = 440 → n < fc → n < fm → c ≤ k → QR x L (L.1 2) (L.1 3) M N (T + k) M1 N1 → N1.1 (x + 95) 29 = 0 → HB b (N1.1 (x + 95 + 17)) k → ∃ v M2 N2, lop4 fc (l_X2_firstSettled_34 (x + 79) (M.2.2 0)) b (Int32.ofNat c) (Int32.ofNat (k + 1)) M1 = some (v, M2) ∧ lop3 fm (l_X11_settles_34 (x + 95)) (Int32.ofNat c) (Int32.ofNat (k + 1)) N1 = some (v, N2) ∧ Fin x L M N M2 N2 := by
  intro n
  induction n with
  | zero =>
    intro k fc fm b c M1 N1 hk hc hm hck q hs hh
    obtain ⟨fc, rfl⟩ : ∃ q, fc = q + 1 := ⟨fc - 1, by omega⟩
    obtain ⟨fm, rfl⟩ : ∃ q, fm = q + 1 := ⟨fm - 1, by omega⟩
    obtain rfl : k = 440 := by omega
    refine ⟨-1, M1, _, lop4_inr' (Wp.eq ?_), lop3_inr (Wp.eq ?_), q.fin hI hs q.1⟩
    · unfold l_X2_firstSettled_34
      exact Wp.ps (by decide) (Wp.ret rfl)
    · unfold l_X11_settles_34
      exact Wp.ps (by decide) (Wp.cl q.bk (Wp.ret rfl))
  | succ n ih =>
    intro k fc fm b c M1 N1 hk hc hm hck q hs hh
    obtain ⟨fc, rfl⟩ : ∃ q, fc = q + 1 := ⟨fc - 1, by omega⟩
    obtain ⟨fm, rfl⟩ : ∃ q, fm = q + 1 := ⟨fm - 1, by omega⟩
    obtain ⟨M2, N2, e1, e2, q2, s2, fM2, vm2, _⟩ := q.step hI.1 hI.at ⟨by omega, by omega⟩
    have hT2 : T + ((k + 1 : Nat) : Int) = T + (k : Int) + 1 := by omega
    have g8 : M2.1 (x + 79 + 1 + 5) 0 = N2.1 (x + 95 + 8) 8 := q2.core.1.g8
    have hTb : 0 ≤ T + (k : Int) + 1 ∧ T + (k : Int) + 1 ≤ 60000 := by omega
    obtain ⟨z, hz, hz01⟩ : ∃ z : Int32, z = (if N2.1 (x + 95 + 8) 8 = 2 then 1 else 0) ∧ (z = 0 ∨ z = 1) := ⟨_, rfl, by split; exact Or.inr rfl; exact Or.inl rfl⟩
    generalize hN3 : wi N2 (x + 95 + 17) (k + 1) z = N3
    have o3 : ∀ b j, ¬ b = x + 95 + 17 → N3.1 b j = N2.1 b j := fun b j hb => by rw [← hN3, wi_rwo (by omega)]
    have q3 := q2.w17 o3 (by rw [← hN3]; rfl)
    have v17 : ∀ j, ¬ j = x + 95 + 17 → True := fun _ _ => trivial
    have h17 : N2.1 (x + 95 + 17) = N1.1 (x + 95 + 17) := funext fun j => vm2.1 _ _ (by omega) (by omega) (by omega)
    have hb3 : HB ((b <<< ((1 : Int32).toInt64 &&& 63)) ||| z.toInt64) (N3.1 (x + 95 + 17)) (k + 1) := by
      refine hh.push hz01 ?_ (fun j hj => ?_)
      · rw [← hN3, wi_hit]
      · rw [← hN3, wi_sl (by omega), h17]
    have hs3 : N3.1 (x + 95) 29 = 0 := by rw [o3 _ _ (by omega)]; exact s2 hs
    have hoff := e_off q2 hI.1 hI.at hTb
    have hnear := e_isNear q3 hI.1 hI.at hTb
    have hr : N3.1 (x + 95 + 8) = N2.1 (x + 95 + 8) := funext fun _ => o3 _ _ (by omega)
    rw [hr] at hnear
    generalize hd : iabs (levR (L.1 0) (N2.1 (x + 95 + 8)) - N2.1 (x + 95 + 8) 29) = d at hoff hnear
    obtain ⟨c2, hc2, hc2k⟩ : ∃ c2 : Nat, Int32.ofNat c2 = (if (2 : Int32) < d then 0 else Int32.ofNat (c + 1)) ∧ c2 ≤ k + 1 := by
      by_cases g : (2 : Int32) < d
      · exact ⟨0, by rw [if_pos g]; rfl, by omega⟩
      · exact ⟨c + 1, by rw [if_neg g], by omega⟩
    obtain ⟨w, hw⟩ : ∃ w : Bool, (w = true ↔ (40 ≤ c2 ∧ N3.1 (x + 95 + 17) (k + 1 - 40) = 1)) := ⟨decide (40 ≤ c2 ∧ N3.1 (x + 95 + 17) (k + 1 - 40) = 1), by simp⟩
    have hc40 : Int32.ofNat c2 < 40 ↔ c2 < 40 := i_lt (a := c2) (b := 40) (by omega) (by omega)
    have b1 : l_X2_firstSettled_34 (x + 79) (M.2.2 0) b (Int32.ofNat c) (Int32.ofNat (k + 1)) M1 = some (if w then (.inr (Int32.ofNat (k + 1) - 40, M2)) else (.inl ((b <<< ((1 : Int32).toInt64 &&& 63)) ||| z.toInt64, Int32.ofNat c2, Int32.ofNat (k + 1 + 1), M2))) := by
      refine Wp.eq ?_
      unfold l_X2_firstSettled_34
      refine Wp.ng (i440 (by omega)) (Wp.cl e1 (Wp.j1 ?_))
      rw [g8]
      have tail : ∀ v : Int32, v = Int32.ofNat c2 → Wp (jn0 (fun _ => nm (Int32.ofNat (k + 1) + (1 : Int32)) (fun y15 => some (.inl ((b <<< ((1 : Int32).toInt64 &&& 63)) ||| z.toInt64, v, y15, M2)))) (fun J121 => if v < (40 : Int32) then (J121 ()) else (if (lg_cmp ((((b <<< ((1 : Int32).toInt64 &&& 63)) ||| z.toInt64) >>> ((40 : Int32).toInt64 &&& 63)) &&& (1 : Int64)) (0 : Int64)) = 0 then (J121 ()) else (some (.inr (Int32.ofNat (k + 1) - (40 : Int32), M2)))))) (fun r => r = (if w then (.inr (Int32.ofNat (k + 1) - 40, M2)) else (.inl ((b <<< ((1 : Int32).toInt64 &&& 63)) ||| z.toInt64, Int32.ofNat c2, Int32.ofNat (k + 1 + 1), M2)) : (Int64 × Int32 × Int32 × Mem) ⊕ (Int32 × Mem))) := fun v hv => by
        subst hv
        refine Wp.j0 (Wp.br (fun g => ?_) (fun g => ?_))
        · refine Wp.nam ?_
          rw [i_ad1]
          exact Wp.ret (by rw [if_neg (fun e => by have := (hw.mp e).1; have := hc40.mp g; omega)])
        · have h40 : 40 ≤ c2 := Nat.le_of_not_lt fun g' => g (hc40.mpr g')
          have hbit := hb3 40 (by omega) (by omega)
          refine Wp.br (fun g3 => ?_) (fun g3 => ?_)
          · refine Wp.nam ?_
            rw [i_ad1]
            exact Wp.ret (by rw [if_neg (fun e => bit_test.mp g3 (hbit.mpr (hw.mp e).2))])
          · refine Wp.ret ?_
            have : w = true := hw.mpr ⟨h40, hbit.mp (Classical.byContradiction fun e => g3 (bit_test.mpr e))⟩
            rw [if_pos this]
      have tail2 : Wp (nm ((b <<< ((1 : Int32).toInt64 &&& 63)) ||| z.toInt64) (fun y11 => bd (f_X2_offTarget (x + 79) (M2.1 (M.2.2 0) 0) M2) (fun u12 M13 => jn1 (fun z14 => jn0 (fun _ => nm (Int32.ofNat (k + 1) + (1 : Int32)) (fun y15 => some (.inl (y11, z14, y15, M13)))) (fun J121 => if z14 < (40 : Int32) then (J121 ()) else (if (lg_cmp ((y11 >>> ((40 : Int32).toInt64 &&& 63)) &&& (1 : Int64)) (0 : Int64)) = 0 then (J121 ()) else (some (.inr (Int32.ofNat (k + 1) - (40 : Int32), M13)))))) (fun J95 => if (2 : Int32) < u12 then (J95 (0 : Int32)) else (J95 (Int32.ofNat c + (1 : Int32))))))) (fun r => r = (if w then (.inr (Int32.ofNat (k + 1) - 40, M2)) else (.inl ((b <<< ((1 : Int32).toInt64 &&& 63)) ||| z.toInt64, Int32.ofNat c2, Int32.ofNat (k + 1 + 1), M2)) : (Int64 × Int32 × Int32 × Mem) ⊕ (Int32 × Mem))) := by
        refine Wp.nam (Wp.cl hoff (Wp.j1 (Wp.br (fun g => ?_) (fun g => ?_))))
        · exact tail 0 (by rw [hc2, if_pos g])
        · exact tail _ (by rw [hc2, if_neg g, i_ad1])
      refine Wp.br (fun g => ?_) (fun g => ?_)
      · rw [if_pos g] at hz
        rw [hz] at tail2 ⊢
        exact tail2
      · rw [if_neg g] at hz
        rw [hz] at tail2 ⊢
        exact tail2
    have b2 : l_X11_settles_34 (x + 95) (Int32.ofNat c) (Int32.ofNat (k + 1)) N1 = some (if w then (.inr (Int32.ofNat (k + 1) - 40, rcp N3 (x + 95 + 16) (x + 95 + 8) 665)) else (.inl (Int32.ofNat c2, Int32.ofNat (k + 1 + 1), N3))) := by
      refine Wp.eq ?_
      unfold l_X11_settles_34
      refine Wp.ng (i440 (by omega)) (Wp.cl e2 (Wp.j1 ?_))
      have tail : ∀ v : Int32, v = Int32.ofNat c2 → Wp (jn0 (fun _ => nm (Int32.ofNat (k + 1) + (1 : Int32)) (fun y19 => some (.inl (v, y19, N3)))) (fun J110 => if v < (40 : Int32) then (J110 ()) else (gdi (Int32.ofNat (k + 1) - (40 : Int32)) 441 (if (N3.1 (x + 95 + 17) (Int32.ofNat (k + 1) - (40 : Int32)).toNatClampNeg) = (1 : Int32) then (bd (f_X11_back (x + 95) (Int32.ofNat (k + 1) - (40 : Int32)) N3) (fun u20 M21 => some (.inr (u20, M21)))) else (J110 ()))))) (fun r => r = (if w then (.inr (Int32.ofNat (k + 1) - 40, rcp N3 (x + 95 + 16) (x + 95 + 8) 665)) else (.inl (Int32.ofNat c2, Int32.ofNat (k + 1 + 1), N3)) : (Int32 × Int32 × Mem) ⊕ (Int32 × Mem))) := fun v hv => by
        subst hv
        refine Wp.j0 (Wp.br (fun g => ?_) (fun g => ?_))
        · refine Wp.nam ?_
          rw [i_ad1]
          exact Wp.ret (by rw [if_neg (fun e => by have := (hw.mp e).1; have := hc40.mp g; omega)])
        · have h40 : 40 ≤ c2 := Nat.le_of_not_lt fun g' => g (hc40.mpr g')
          have hsub : Int32.ofNat (k + 1) - 40 = Int32.ofNat (k + 1 - 40) := i_sbn (b := 40) (by omega)
          rw [hsub]
          refine Wp.gi (i_rng (by omega) (by decide)) ?_
          rw [i_nn (by omega)]
          refine Wp.br (fun g3 => ?_) (fun g3 => ?_)
          · exact Wp.cl q3.bk (Wp.ret (by rw [if_pos (hw.mpr ⟨h40, g3⟩)]))
          · refine Wp.nam ?_
            rw [i_ad1]
            exact Wp.ret (by rw [if_neg (fun e => g3 (hw.mp e).2)])
      have tail2 : Wp (gdi (Int32.ofNat (k + 1)) 441 (nm (wi N2 (x + 95 + 17) (Int32.ofNat (k + 1)).toNatClampNeg z) (fun M15 => bd (f_X11_isNear (x + 95) M15) (fun u16 M17 => jn1 (fun z18 => jn0 (fun _ => nm (Int32.ofNat (k + 1) + (1 : Int32)) (fun y19 => some (.inl (z18, y19, M17)))) (fun J110 => if z18 < (40 : Int32) then (J110 ()) else (gdi (Int32.ofNat (k + 1) - (40 : Int32)) 441 (if (M17.1 (x + 95 + 17) (Int32.ofNat (k + 1) - (40 : Int32)).toNatClampNeg) = (1 : Int32) then (bd (f_X11_back (x + 95) (Int32.ofNat (k + 1) - (40 : Int32)) M17) (fun u20 M21 => some (.inr (u20, M21)))) else (J110 ()))))) (fun J81 => if u16 = 0 then (J81 (0 : Int32)) else (J81 (Int32.ofNat c + (1 : Int32)))))))) (fun r => r = (if w then (.inr (Int32.ofNat (k + 1) - 40, rcp N3 (x + 95 + 16) (x + 95 + 8) 665)) else (.inl (Int32.ofNat c2, Int32.ofNat (k + 1 + 1), N3)) : (Int32 × Int32 × Mem) ⊕ (Int32 × Mem))) := by
        refine Wp.gi (i_rng (by omega) (by decide)) ?_
        rw [i_nn (by omega), hN3]
        refine Wp.nam (Wp.cl hnear (Wp.j1 ?_))
        by_cases g : (2 : Int32) < d
        · rw [if_pos g]
          exact Wp.ps rfl (tail 0 (by rw [hc2, if_pos g]))
        · rw [if_neg g]
          exact Wp.ng (by decide) (tail _ (by rw [hc2, if_neg g, i_ad1]))
      refine Wp.br (fun g => ?_) (fun g => ?_)
      · rw [if_pos g] at hz
        rw [hz] at tail2
        exact tail2
      · rw [if_neg g] at hz
        rw [hz] at tail2
        exact tail2
    by_cases hw1 : w = true
    · rw [if_pos hw1] at b1 b2
      exact ⟨_, M2, _, lop4_inr' b1, lop3_inr b2, q3.fin hI hs3 q3.1⟩
    · rw [if_neg hw1] at b1 b2
      obtain ⟨v, M4, N4, r1, r2, r3⟩ := ih (k + 1) fc fm ((b <<< ((1 : Int32).toInt64 &&& 63)) ||| z.toInt64) c2 M2 N3 (by omega) (by omega) (by omega) hc2k (by rw [hT2]; exact q3) hs3 hb3
      exact ⟨v, M4, N4, (lop4_inl' b1).trans r1, (lop3_inl b2).trans r2, r3⟩
theorem call_settles {x : Nat} {L : LN} {M N0 N : Mem} (h : Rdy x L M N0 N) : CallV x M N (f_X10_settles x M) (f_X11_settles (x + 95) N0) := by
  obtain ⟨hr, hI, hc0⟩ := h
  obtain ⟨T, t0, t1, M1, N1, c1, c2, q, s0, fN, fM⟩ := hI.rw0
  obtain ⟨z, hz, hz01⟩ : ∃ z : Int32, z = (if N1.1 (x + 95 + 8) 8 = 2 then 1 else 0) ∧ (z = 0 ∨ z = 1) := ⟨_, rfl, by split; exact Or.inr rfl; exact Or.inl rfl⟩
  generalize hN2 : wi N1 (x + 95 + 17) 0 z = N2
  have o2 : ∀ b j, ¬ b = x + 95 + 17 → N2.1 b j = N1.1 b j := fun b j hb => by rw [← hN2, wi_rwo (by omega)]
  have q2 := q.w17 o2 (by rw [← hN2]; rfl)
  have g8 : M1.1 (x + 79 + 1 + 5) 0 = N1.1 (x + 95 + 8) 8 := q.core.1.g8
  have q2' : QR x L (L.1 2) (L.1 3) M N (T + (0 : Nat)) M1 N2 := by
    have : T + ((0 : Nat) : Int) = T := by omega
    rw [this]; exact q2
  have hb : HB z.toInt64 (N2.1 (x + 95 + 17)) 0 := by
    intro j _ hj
    obtain rfl : j = 0 := by omega
    rw [← hN2, wi_hit]
    rcases hz01 with e | e <;> rw [e] <;> decide
  obtain ⟨v, M3, N3, r1, r2, r3⟩ := settles_loop hI ⟨t0, t1⟩ 440 0 FU FU z.toInt64 0 M1 N2 (by omega) (by unfold FU; omega) (by unfold FU; omega) (by omega) q2' (by rw [o2 _ _ (by omega)]; exact s0) hb
  refine ⟨v, M3, N3, L, ?_, ?_, r3.1, r3.2.1.fr, r3.2.2.1.fr⟩
  · refine Wp.eq ?_
    unfold f_X10_settles
    refine Wp.gp hI.at ?_
    have e : f_X2_firstSettled (x + 79) (x + 19 + 1) (M.2.2 0) M = some (v, M3) := by
      refine Wp.eq ?_
      unfold f_X2_firstSettled
      refine Wp.cl c1 (Wp.j1 ?_)
      rw [g8]
      refine Wp.br (fun g => ?_) (fun g => ?_)
      · rw [if_pos g] at hz
        rw [hz] at r1
        exact ⟨_, r1, rfl⟩
      · rw [if_neg g] at hz
        rw [hz] at r1
        exact ⟨_, r1, rfl⟩
    exact Wp.cl e (Wp.ret rfl)
  · refine Wp.eq ?_
    unfold f_X11_settles
    refine Wp.cl hr (Wp.cl c2 (Wp.j1 ?_))
    have r4 : lop3 FU (l_X11_settles_34 (x + 95)) (0 : Int32) (1 : Int32) (wi N1 (x + 95 + 17) 0 z) = some (v, N3) := by rw [hN2]; exact r2
    refine Wp.br (fun g => ?_) (fun g => ?_)
    · rw [if_pos g] at hz
      rw [hz] at r4
      exact Wp.nam ⟨_, r4, rfl⟩
    · rw [if_neg g] at hz
      rw [hz] at r4
      exact Wp.nam ⟨_, r4, rfl⟩
