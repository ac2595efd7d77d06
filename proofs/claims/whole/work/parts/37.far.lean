/-! The far end: class and model send alike. -/
theorem far_ok {z p i : Int32} {A B C D : Int} {m m' : Nat} {c c' : CW} {r r' : Nat → Int32} {s s' sl : Int32} (h : Rl z p i A B C D m c r s sl) (hS : Sc c' r') (hr : ∀ j, ¬ (j = 2 ∨ j = 3 ∨ j = 24 ∨ j = 25 ∨ j = 31) → ¬ (33 ≤ j ∧ j ≤ 152) → r' j = r j) (hc : ∀ d k, 5 ≤ d → c' d k = c d k) (h2 : (r' 2).toInt = (r 2).toInt + 1) (hI : (r 2).toInt + 1 ≤ (r 1).toInt) (hm : r' 31 = Int32.ofNat m') (h40 : m' ≤ 40) (hL : aL m' c' r') (hg : gQL m' ((r 2).toInt + 1) r') (hd : m' ≤ m + 1) (hF : FT (c' 1 12) (c' 1 13) s' sl) : Rl z p i A B C D m' c' r' s' sl := by
  obtain ⟨⟨_, k2, k3, ⟨f1, f2, f3, f4, f5, f6, f7⟩, k5, k6, k7, k8, k9, k10, k11, k12, k13⟩, _, _, _, _, l6, _⟩ := h
  have hr' : ∀ j, 4 ≤ j → j ≤ 23 → r' j = r j := fun j a b => hr j (by omega) (by omega)
  refine ⟨⟨hS, by rw [hc _ _ (by omega)]; exact k2, by rw [hc _ _ (by omega)]; exact k3, ?_, k5.cg (fun j hj => hr j ?_ ?_), k6.cg (fun j hj => hr j (by omega) (by omega)), ?_, k8.cg (fun j hj => hr j (by omega) (by omega)), k9.cg (fun d k hd => hc d k (by omega)) (fun j a b => hr j (by omega) (by omega)), k10.cg (fun k => hc _ _ (by omega)) (fun j hj => hr j (by omega) (by omega)), k11.cg (fun k => hc _ _ (by omega)) (fun j hj => hr j (by omega) (by omega)), k12.cg (hc _ _ (by omega)) (hr _ (by omega) (by omega)) (hr _ (by omega) (by omega)), k13.cg (hc _ _ (by omega)) (fun j hj => hr j ?_ ?_)⟩, hm, h40, hL, by rw [h2]; exact hg, ?_, hF⟩
  · unfold gF
    rw [hr 1 (by omega) (by omega), hr 22 (by omega) (by omega), hr 27 (by omega) (by omega), h2]
    omega
  · simp at hj; omega
  · simp at hj; omega
  · exact k7.cg (by omega) (fun j hj => hr j (by omega) (by omega))
  · simp at hj; omega
  · simp at hj; omega
  · rw [h2]
    exact l6.cg (by omega) (hr _ (by omega) (by omega)) (hr _ (by omega) (by omega))
theorem send_ok {L : LN} {z p i time : Int32} {A B C D : Int} {m : Nat} {c : CW} {r : Nat → Int32} {s sl : Int32} (h : Rl z p i A B C D m c r s sl) (ht : time = r 0) (hI : (r 2).toInt + 1 ≤ (r 1).toInt) (hb : (r 1).toInt ≤ 1000000) : (∃ m', Rl z p i A B C D m' (sendC L time c) (sendR L sl s r).1 (sendR L sl s r).2 sl) ∧ (∀ j, ¬ (j = 2 ∨ j = 3 ∨ j = 24 ∨ j = 25 ∨ j = 31) → ¬ (33 ≤ j ∧ j ≤ 152) → (sendR L sl s r).1 j = r j) := by
  have hh := h
  obtain ⟨⟨k1, k2, k3, ⟨f1, f2, f3, f4, f5, f6, f7⟩, k5, k6, k7, k8, k9, k10, k11, k12, k13⟩, l2, l3, l4, l5, l6, l7⟩ := h
  generalize hdl : delV L (r 2) (r 0) (r 24) (r 31) = dl
  generalize hfl : lstF L (r 2) (r 0) (r 24) (r 31) = f
  have hC : sendC L time c = snd2 dl f time c := by
    unfold sendC
    rw [k1.g2, ht, k1.g24, k1.g31, hdl, hfl]
  have hlost := lost_ok (f := f) k1 l2 l3 l7
  have hr1 : ∀ j, ¬ j = 25 → (lostR f s sl r).2.2 j = r j := fun j hj => lost_31 hj
  have h40 : (lostR f s sl r).1 = 0 → ¬ r 31 = 40 := lost_40
  have hR : sendR L sl s r = (rup (rup (if (lostR f s sl r).1 = 0 then addR dl (lostR f s sl r).2.2 else rup (lostR f s sl r).2.2 3 ((lostR f s sl r).2.2 3 + 1)) 24 dl) 2 (rup (if (lostR f s sl r).1 = 0 then addR dl (lostR f s sl r).2.2 else rup (lostR f s sl r).2.2 3 ((lostR f s sl r).2.2 3 + 1)) 24 dl 2 + 1), (lostR f s sl r).2.1) := by
    unfold sendR
    rw [hdl, hfl]
  rw [hC, hR]
  unfold snd2
  rw [hlost.1]
  generalize lostR f s sl r = l at *
  generalize lostC f c = q at *
  obtain ⟨u, s1, r1⟩ := l
  obtain ⟨u', c1⟩ := q
  obtain ⟨e1, e2, e3, e4⟩ := hlost
  simp only [] at e1 e2 e3 e4 hr1 h40 ⊢
  have a2 := hr1 2 (by decide)
  have t2 : (r 2 + 1).toInt = (r 2).toInt + 1 := by
    have e : (1 : Int32).toInt = 1 := rfl
    rw [ti_add (by omega) (by omega), e]
  by_cases hu : u = 0
  · rw [if_pos hu, if_pos hu]
    have hm40 : m < 40 := by
      rcases Nat.lt_or_ge m 40 with h | h
      · exact h
      · exfalso
        apply h40 hu
        rw [l2, show m = 40 by omega]
        rfl
    have c18 : c1 1 8 = Int32.ofNat m := by rw [e2.g31, hr1 31 (by decide), l2]
    have hsA : sndA dl time c1 = uc (uc (uc (uc c1 2 m (r 2)) 3 m ((r 0 + dl) + r 26)) 4 m (r 0 &&& 255)) 1 8 (Int32.ofNat (m + 1)) := by
      unfold sndA
      simp only []
      rw [c18, cput_nat hm40 (by decide), uc_o (by omega), uc_o (by omega), c18, cput_nat hm40 (by decide), uc_o (by omega), uc_o (by omega), c18, cput_nat hm40 (by decide), uc_o (by omega), uc_o (by omega), uc_o (by omega), c18, i_ad1, imod256, e2.g2, a2, e2.g26, hr1 26 (by decide), ht]
    have hsR : addR dl r1 = rup (rup (rup (rup r1 (33 + 3 * m) (r 2)) (33 + 3 * m + 1) ((r 0 + dl) + r 26)) (33 + 3 * m + 2) (r 0 &&& 255)) 31 (Int32.ofNat (m + 1)) := by
      unfold addR
      simp only []
      rw [hr1 31 (by decide), l2, i_33, i_ad1, i_ad2, i_nn (by omega), i_nn (by omega), i_nn (by omega), a2]
      rw [rup_o (show ¬ 0 = 33 + 3 * m + 1 by omega), rup_o (show ¬ 0 = 33 + 3 * m by omega), rup_o (show ¬ 26 = 33 + 3 * m by omega), hr1 0 (by decide), hr1 26 (by decide), rup_o (show ¬ 31 = 33 + 3 * m + 2 by omega), rup_o (show ¬ 31 = 33 + 3 * m + 1 by omega), rup_o (show ¬ 31 = 33 + 3 * m by omega), hr1 31 (by decide), l2, i_ad1]
    rw [hsA, hsR]
    have v3 : uc (uc (uc (uc (uc c1 2 m (r 2)) 3 m ((r 0 + dl) + r 26)) 4 m (r 0 &&& 255)) 1 8 (Int32.ofNat (m + 1))) 1 5 dl 1 3 = r 2 := by
      rw [uc_o (by omega), uc_o (by omega), uc_o (by omega), uc_o (by omega), uc_o (by omega), e2.g2, a2]
    have v2 : rup (rup (rup (rup (rup r1 (33 + 3 * m) (r 2)) (33 + 3 * m + 1) ((r 0 + dl) + r 26)) (33 + 3 * m + 2) (r 0 &&& 255)) 31 (Int32.ofNat (m + 1))) 24 dl 2 = r 2 := by
      rw [rup_o (by omega), rup_o (by omega), rup_o (by omega), rup_o (by omega), rup_o (by omega), a2]
    rw [v3, v2]
    have fr : ∀ j, ¬ (j = 2 ∨ j = 3 ∨ j = 24 ∨ j = 25 ∨ j = 31) → (∀ k, k < 3 → ¬ j = 33 + 3 * m + k) → rup (rup (rup (rup (rup (rup r1 (33 + 3 * m) (r 2)) (33 + 3 * m + 1) ((r 0 + dl) + r 26)) (33 + 3 * m + 2) (r 0 &&& 255)) 31 (Int32.ofNat (m + 1))) 24 dl) 2 (r 2 + 1) j = r j := fun j h1 h2 => by
      have := h2 0 (by decide); have := h2 1 (by decide); have := h2 2 (by decide)
      rw [rup_o (by omega), rup_o (by omega), rup_o (by omega), rup_o (by omega), rup_o (by omega), rup_o (by omega), hr1 j (by omega)]
    refine ⟨⟨m + 1, far_ok (s' := s1) hh ?_ (fun j h1 h2 => fr j h1 (fun k hk => by omega)) (fun d k hd => ?_) ?_ hI ?_ (by omega) ?_ ?_ (Nat.le_refl _) ?_⟩, fun j h1 h2 => fr j h1 (fun k hk => by omega)⟩
    · refine Sc.up (d := 1) (k := 3) (i := 2) (Sc.up (d := 1) (k := 5) (i := 24) (Sc.up (d := 1) (k := 8) (i := 31) ?_ rfl (by decide)) rfl (by decide)) rfl (by decide)
      exact ((((((e2.uCa (d := 2) (by decide)).uCa (d := 3) (by decide)).uCa (d := 4) (by decide)).uRa (by omega)).uRa (by omega)).uRa (by omega))
    · rw [uc_o (by omega), uc_o (by omega), uc_o (by omega), uc_o (by omega), uc_o (by omega), uc_o (by omega)]
      exact e4 d k (by omega)
    · rw [rup_s, t2]
    · rw [rup_o (by omega), rup_o (by omega), rup_s]
    · intro k hk
      by_cases hkm : k = m
      · subst hkm
        refine ⟨?_, ?_, ?_⟩
        · rw [uc_o (by omega), uc_o (by omega), uc_o (by omega), uc_o (by omega), uc_o (by omega), uc_s]
          rw [rup_o (by omega), rup_o (by omega), rup_o (by omega), rup_o (by omega), rup_o (by omega), rup_s]
        · rw [uc_o (by omega), uc_o (by omega), uc_o (by omega), uc_o (by omega), uc_s]
          rw [rup_o (by omega), rup_o (by omega), rup_o (by omega), rup_o (by omega), rup_s]
        · rw [uc_o (by omega), uc_o (by omega), uc_o (by omega), uc_s]
          rw [rup_o (by omega), rup_o (by omega), rup_o (by omega), rup_s]
      · have hc : ∀ d, 2 ≤ d → uc (uc (uc (uc (uc (uc c1 2 m (r 2)) 3 m ((r 0 + dl) + r 26)) 4 m (r 0 &&& 255)) 1 8 (Int32.ofNat (m + 1))) 1 5 dl) 1 3 (r 2 + 1) d k = c d k := fun d hd => by
          rw [uc_o (by omega), uc_o (by omega), uc_o (by omega), uc_o (by omega), uc_o (by omega), uc_o (by omega)]
          exact e4 d k (by omega)
        rw [hc 2 (by omega), hc 3 (by omega), hc 4 (by omega), fr _ (by omega) (fun j hj => by omega), fr _ (by omega) (fun j hj => by omega), fr _ (by omega) (fun j hj => by omega)]
        exact l4 k (by omega)
    · intro k hk
      by_cases hkm : k = m
      · subst hkm
        rw [rup_o (by omega), rup_o (by omega), rup_o (by omega), rup_o (by omega), rup_o (by omega), rup_s]
        omega
      · rw [fr _ (by omega) (fun j hj => by omega)]
        have := l5 k (by omega)
        omega
    · rw [uc_o (by omega), uc_o (by omega), uc_o (by omega), uc_o (by omega), uc_o (by omega), uc_o (by omega), uc_o (by omega), uc_o (by omega), uc_o (by omega), uc_o (by omega), uc_o (by omega), uc_o (by omega)]
      exact e3
  · rw [if_neg hu, if_neg hu]
    have v3 : uc (uc c1 1 4 (c1 1 4 + 1)) 1 5 dl 1 3 = r 2 := by
      rw [uc_o (by omega), uc_o (by omega), e2.g2, a2]
    have v2 : rup (rup r1 3 (r1 3 + 1)) 24 dl 2 = r 2 := by
      rw [rup_o (by omega), rup_o (by omega), a2]
    rw [v3, v2]
    have fr : ∀ j, ¬ (j = 2 ∨ j = 3 ∨ j = 24 ∨ j = 25) → rup (rup (rup r1 3 (r1 3 + 1)) 24 dl) 2 (r 2 + 1) j = r j := fun j h1 => by
      rw [rup_o (by omega), rup_o (by omega), rup_o (by omega), hr1 j (by omega)]
    have fc : ∀ d k, 2 ≤ d → uc (uc (uc c1 1 4 (c1 1 4 + 1)) 1 5 dl) 1 3 (r 2 + 1) d k = c d k := fun d k hd => by
      rw [uc_o (by omega), uc_o (by omega), uc_o (by omega)]
      exact e4 d k (by omega)
    refine ⟨⟨m, far_ok (s' := s1) hh ?_ (fun j h1 h2 => fr j (by omega)) (fun d k hd => fc d k (by omega)) ?_ hI ?_ l3 ?_ ?_ (by omega) ?_⟩, fun j h1 h2 => fr j (by omega)⟩
    · exact Sc.up (d := 1) (k := 3) (i := 2) (Sc.up (d := 1) (k := 5) (i := 24) (Sc.up (d := 1) (k := 4) (i := 3) e2 (by rw [e2.g3]) (by decide)) rfl (by decide)) rfl (by decide)
    · rw [rup_s, t2]
    · rw [fr 31 (by omega), l2]
    · exact l4.cg (fun d k hd _ => fc d k (by omega)) (fun j a b => fr j (by omega))
    · exact l5.cg (by omega) (fun k hk => fr _ (by omega))
    · rw [uc_o (by omega), uc_o (by omega), uc_o (by omega), uc_o (by omega), uc_o (by omega), uc_o (by omega)]
      exact e3
/-- an OCTET is made -/
def octR (L : LN) (sl s : Int32) (r : Nat → Int32) : (Nat → Int32) × Int32 :=
  let r2 := rup (rup r 22 (r 22 - 1000)) 1 (rup r 22 (r 22 - 1000) 1 + 1)
  if r2 1 - r2 1 / L.1 0 * L.1 0 = 0 then sendR L sl s r2 else (r2, s)
theorem oct_ok {L : LN} {z p i time : Int32} {A B C D : Int} {m : Nat} {c : CW} {r : Nat → Int32} {s sl : Int32} (hW : LWf L) (hA : A ≤ 100000000) (h : Rl z p i A B C D m c r s sl) (ht : time = r 0) (h22 : ¬ r 22 < 1000) : (∃ m', Rl z p i A B C D m' (octC L time c) (octR L sl s r).1 (octR L sl s r).2 sl) ∧ (octR L sl s r).1 0 = r 0 ∧ ((octR L sl s r).1 22).toInt = (r 22).toInt - 1000 ∧ (∀ j, (4 ≤ j ∧ j ≤ 21) ∨ j = 23 → (octR L sl s r).1 j = r j) := by
  have e1000 : (1000 : Int32).toInt = 1000 := rfl
  have e1 : (1 : Int32).toInt = 1 := rfl
  have g22 : ¬ (r 22).toInt < 1000 := fun g => h22 (Int32.lt_iff_toInt_lt.mpr g)
  obtain ⟨⟨k1, k2, k3, ⟨f1, f2, f3, f4, f5, f6, f7⟩, k5, k6, k7, k8, k9, k10, k11, k12, k13⟩, l2, l3, l4, l5, l6, l7⟩ := h
  have t22 : (r 22 - 1000).toInt = (r 22).toInt - 1000 := by rw [ti_sub (by omega) (by omega), e1000]
  have t1 : (r 1 + 1).toInt = (r 1).toInt + 1 := by rw [ti_add (by omega) (by omega), e1]
  have v1 : rup r 22 (r 22 - 1000) 1 = r 1 := rup_o (by decide)
  have vc1 : uc c 1 1 (c 1 1 - 1000) 1 2 = r 1 := by rw [uc_o (by decide), k1.g1]
  generalize hr2 : rup (rup r 22 (r 22 - 1000)) 1 (rup r 22 (r 22 - 1000) 1 + 1) = r2
  generalize hc2 : uc (uc c 1 1 (c 1 1 - 1000)) 1 2 (uc c 1 1 (c 1 1 - 1000) 1 2 + 1) = c2
  have fr : ∀ j, ¬ (j = 1 ∨ j = 22) → r2 j = r j := fun j hj => by
    rw [← hr2, rup_o (by omega), rup_o (by omega)]
  have fc : ∀ d k, ¬ (d = 1 ∧ (k = 1 ∨ k = 2)) → c2 d k = c d k := fun d k hd => by
    rw [← hc2, uc_o (by omega), uc_o (by omega)]
  have w1 : r2 1 = r 1 + 1 := by rw [← hr2, rup_s, v1]
  have w22 : r2 22 = r 22 - 1000 := by rw [← hr2, rup_o (by decide), rup_s]
  have hS : Sc c2 r2 := by
    rw [← hr2, ← hc2]
    exact Sc.up (d := 1) (k := 2) (i := 1) (Sc.up (d := 1) (k := 1) (i := 22) k1 (by rw [k1.g22]) (by decide)) (by rw [v1, vc1]) (by decide)
  have hR2 : Rl z p i A B C D m c2 r2 s sl := by
    refine ⟨⟨hS, by rw [fc _ _ (by decide)]; exact k2, by rw [fc _ _ (by decide)]; exact k3, ?_, k5.cg (fun j hj => fr j ?_), k6.cg (fun j hj => fr j (by omega)), ?_, k8.cg (fun j hj => fr j (by omega)), k9.cg (fun d k hd => fc d k (by omega)) (fun j a b => fr j (by omega)), k10.cg (fun k => fc _ _ (by omega)) (fun j hj => fr j (by omega)), k11.cg (fun k => fc _ _ (by omega)) (fun j hj => fr j (by omega)), k12.cg (fc _ _ (by omega)) (fr _ (by omega)) (fr _ (by omega)), k13.cg (fc _ _ (by omega)) (fun j hj => fr j ?_)⟩, by rw [fr 31 (by omega)]; exact l2, l3, l4.cg (fun d k hd _ => fc d k (by omega)) (fun j a b => fr j (by omega)), ?_, ?_, ?_⟩
    · unfold gF
      rw [w1, w22, fr 2 (by omega), fr 27 (by omega), t1, t22]
      omega
    · simp at hj; omega
    · rw [fr 2 (by omega)]
      exact k7.cg (Int.le_refl _) (fun j hj => fr j (by omega))
    · simp at hj; omega
    · rw [fr 2 (by omega)]
      exact l5.cg (Int.le_refl _) (fun k hk => fr _ (by omega))
    · rw [fr 2 (by omega)]
      exact l6.cg (Int.le_refl _) (fr _ (by omega)) (fr _ (by omega))
    · rw [fc _ _ (by omega), fc _ _ (by omega)]
      exact l7
  have hz := hW.1
  have hmod : imod (c2 1 2) (L.1 0) = r2 1 - r2 1 / L.1 0 * L.1 0 := by
    rw [hS.g1]
    exact imod_rem (by rw [w1, t1]; omega) (by omega)
  have hC : octC L time c = if imod (c2 1 2) (L.1 0) = 0 then sendC L time c2 else c2 := by rw [← hc2]; rfl
  have hR : octR L sl s r = if r2 1 - r2 1 / L.1 0 * L.1 0 = 0 then sendR L sl s r2 else (r2, s) := by rw [← hr2]; rfl
  rw [hC, hR, hmod]
  by_cases hq : r2 1 - r2 1 / L.1 0 * L.1 0 = 0
  · rw [if_pos hq, if_pos hq]
    obtain ⟨g1, g2⟩ := send_ok (L := L) hR2 (time := time) (by rw [fr 0 (by omega)]; exact ht) (by rw [w1, t1, fr 2 (by omega)]; omega) (by rw [w1, t1]; omega)
    exact ⟨g1, by rw [g2 0 (by omega) (by omega), fr 0 (by omega)], by rw [g2 22 (by omega) (by omega), w22, t22], fun j hj => by rw [g2 j (by omega) (by omega), fr j (by omega)]⟩
  · rw [if_neg hq, if_neg hq]
    exact ⟨⟨m, hR2⟩, fr 0 (by omega), by show (r2 22).toInt = _; rw [w22, t22], fun j hj => fr j (by omega)⟩
theorem lostR_s0 {f s sl : Int32} {r : Nat → Int32} (h : s = 0) : (lostR f s sl r).2.1 = 0 := by
  have hs : s ≤ 0 := by rw [h]; decide
  unfold lostR
  rw [if_pos hs]
  split <;> exact h
theorem octR_s0 {L : LN} {s sl : Int32} {r : Nat → Int32} (h : s = 0) : (octR L sl s r).2 = 0 := by
  unfold octR
  simp only []
  split
  · unfold sendR
    exact lostR_s0 h
  · exact h
theorem m_oct1 {t : Nat} {N : Mem} {L : LN} (hW : LWf L) (hE : EnvM t N L) (h22 : ¬ N.1 (t + 8) 22 < 1000) (h31 : 0 ≤ (N.1 (t + 8) 31).toInt ∧ (N.1 (t + 8) 31).toInt ≤ 40) : Wp (l_X11_makeOctets_21 t N) (fun q => ∃ N', q = .inl N' ∧ N'.1 (t + 8) = (octR L (N.1 t 30) (N.1 t 29) (N.1 (t + 8))).1 ∧ N'.1 t 29 = (octR L (N.1 t 30) (N.1 t 29) (N.1 (t + 8))).2 ∧ VM t N N' ∧ EnvM t N' L) := by
  have hz := hW.1
  have hzn : ¬ L.1 0 = 0 := fun e => by rw [e] at hz; exact absurd hz (by decide)
  unfold l_X11_makeOctets_21
  refine Wp.ng h22 ?_
  refine Wp.nam (Wp.nam ?_)
  rw [wi_rs (N := N), rset_rd, wi_rset]
  generalize hr2 : rup (rup (N.1 (t + 8)) 22 (N.1 (t + 8) 22 - 1000)) 1 (rup (N.1 (t + 8)) 22 (N.1 (t + 8) 22 - 1000) 1 + 1) = r2
  have hvm : VM t N (rset N (t + 8) r2) := VM.rf.rs8
  have hcv : CVm t (rset N (t + 8) r2) L.2.2.1 L.2.2.2 := hE.2.2.2.2.cg (rset_nf (by omega)) (rset_nf (by omega)) (rset_nf (by omega))
  have hE2 := hE.vm hvm hcv
  rw [hE2.1 0 (by decide), rset_rd]
  refine Wp.gp hzn ?_
  have hR : octR L (N.1 t 30) (N.1 t 29) (N.1 (t + 8)) = if r2 1 - r2 1 / L.1 0 * L.1 0 = 0 then sendR L (N.1 t 30) (N.1 t 29) r2 else (r2, N.1 t 29) := by rw [← hr2]; rfl
  rw [hR]
  refine Wp.br (fun h => ?_) (fun h => ?_)
  · rw [if_pos h]
    have e31 : r2 31 = N.1 (t + 8) 31 := by rw [← hr2, rup_o (by decide), rup_o (by decide)]
    refine Wp.bnd ((m_send hW hE2 (by rw [rset_rd, e31]; exact h31)).mono ?_)
    rintro ⟨_, N'⟩ ⟨l, hl, q1, q2, q3, q4⟩
    rw [rset_ne (show ¬ t = t + 8 by omega), rset_ne (show ¬ t = t + 8 by omega), rset_rf] at hl
    refine Wp.ret ⟨N', rfl, ?_, ?_, hvm.tr q3, hE2.vm q3 q4⟩
    · rw [← hl]; exact q1
    · rw [← hl]; exact q2
  · rw [if_neg h]
    exact Wp.ret ⟨_, rfl, rset_rf, rset_ne (by omega), hvm, hE2⟩
theorem mk_sim {t : Nat} {L : LN} {z p i time : Int32} {A B C D : Int} (hW : LWf L) (hA : A ≤ 100000000) : ∀ (n fu : Nat) (N : Mem) (c : CW) (m : Nat), Rl z p i A B C D m c (N.1 (t + 8)) (N.1 t 29) (N.1 t 30) → EnvM t N L → time = N.1 (t + 8) 0 → (N.1 (t + 8) 22).toInt < 1000 * (n + 1) → n < fu → Wp (lop1 fu (l_X11_makeOctets_21 t) N) (fun q => (∃ m', Rl z p i A B C D m' (mkC L time n c) (q.2.1 (t + 8)) (q.2.1 t 29) (q.2.1 t 30)) ∧ (q.2.1 (t + 8) 22).toInt < 1000 ∧ EnvM t q.2 L ∧ VM t N q.2 ∧ q.2.1 (t + 8) 0 = time ∧ (∀ j, (4 ≤ j ∧ j ≤ 21) ∨ j = 23 → q.2.1 (t + 8) j = N.1 (t + 8) j) ∧ (N.1 t 29 = 0 → q.2.1 t 29 = 0)) := by
  have e1000 : (1000 : Int32).toInt = 1000 := rfl
  intro n
  induction n with
  | zero =>
    intro fu N c m h hE ht h22 hf
    obtain ⟨fu, rfl⟩ : ∃ q, fu = q + 1 := ⟨fu - 1, by omega⟩
    refine Wp.l1 ?_
    unfold l_X11_makeOctets_21
    refine Wp.ps (Int32.lt_iff_toInt_lt.mpr (by rw [e1000]; omega)) ?_
    exact Wp.ret ⟨⟨m, h⟩, by show (N.1 (t + 8) 22).toInt < 1000; omega, hE, VM.rf, ht.symm, fun _ _ => rfl, fun g => g⟩
  | succ n ih =>
    intro fu N c m h hE ht h22 hf
    obtain ⟨fu, rfl⟩ : ∃ q, fu = q + 1 := ⟨fu - 1, by omega⟩
    by_cases hlt : N.1 (t + 8) 22 < 1000
    · have g := Int32.lt_iff_toInt_lt.mp hlt
      rw [e1000] at g
      refine Wp.l1 ?_
      unfold l_X11_makeOctets_21
      refine Wp.ps hlt ?_
      refine Wp.ret ⟨⟨m, ?_⟩, g, hE, VM.rf, ht.symm, fun _ _ => rfl, fun g => g⟩
      unfold mkC
      rw [h.1.1.g22, if_pos hlt]
      exact h
    · have h31 : 0 ≤ (N.1 (t + 8) 31).toInt ∧ (N.1 (t + 8) 31).toInt ≤ 40 := by
        rw [h.2.1, Int32.toInt_ofNat_of_lt (by have := h.2.2.1; omega)]
        have := h.2.2.1
        omega
      obtain ⟨⟨m', g1⟩, g2, g3, g4⟩ := oct_ok hW hA h ht hlt
      refine Wp.l1 ((m_oct1 hW hE hlt h31).mono ?_)
      rintro q ⟨N', rfl, q1, q2, q3, q4⟩
      have e30 : N'.1 t 30 = N.1 t 30 := q3.1 _ _ (by omega) (by omega) (by omega)
      rw [← q1, ← q2, ← e30] at g1
      refine (ih fu N' (octC L time c) m' g1 q4 ?_ ?_ (by omega)).mono ?_
      · rw [q1, g2]; exact ht
      · rw [q1, g3]; omega
      · rintro q ⟨⟨m2, w1⟩, w2, w3, w4, w5, w6, w7⟩
        refine ⟨⟨m2, ?_⟩, w2, w3, q3.tr w4, w5, fun j hj => by rw [w6 j hj, q1, g4 j hj], fun g => w7 (by rw [q2]; exact octR_s0 g)⟩
        have : mkC L time (n + 1) c = mkC L time n (octC L time c) := by
          conv => lhs; unfold mkC
          rw [h.1.1.g22, if_neg hlt]
        rw [this]
        exact w1
