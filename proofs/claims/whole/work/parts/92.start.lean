/-! The start -/
theorem M0_row {x d : Nat} {j : Nat} : (M0 x).1 (x + d) j = iv (BLL.getD d (9, 9)) j := by
  show iv (BLL.getD (x + d - x) (9, 9)) j = _
  rw [Nat.add_sub_cancel_left]
theorem start_ok (x : Nat) : ∃ M9 : Mem, f_X8_begin (x + 19) (x + 11) (M0 x) = some ((), M9) ∧ (∀ q, x + 95 ≤ q → (∀ j, M9.1 q j = (M0 x).1 q j) ∧ ∀ j, M9.2.1 q j = 0) ∧ IV x M9 := by
  have b0 : BLL.getD 0 (9, 9) = (0, 10) := by decide +kernel
  have b1 : BLL.getD 1 (9, 9) = (0, 6) := by decide +kernel
  have b11 : BLL.getD 11 (9, 9) = (0, 3) := by decide +kernel
  have b12 : BLL.getD 12 (9, 9) = (1, 16) := by decide +kernel
  have b13 : BLL.getD 13 (9, 9) = (0, 7) := by decide +kernel
  have b16 : BLL.getD 16 (9, 9) = (0, 7) := by decide +kernel
  have b48 : ∀ j, j < 3 → iv (BLL.getD 48 (9, 9)) j = 0 := by decide +kernel
  have b102 : ∀ j, j < 3 → iv (BLL.getD 102 (9, 9)) j = 0 := by decide +kernel
  have b95 : BLL.getD 95 (9, 9) = (0, 11) := by decide +kernel
  have h8 : ∀ k, k < 8 → (M0 x).1 (x + 11) k = L0.1 k := fun k hk => by
    rw [M0_row, b11]
    have : ∀ k, k < 8 → iv (0, 3) k = def0 k := by decide +kernel
    exact this k hk
  have c1 := e_begin9 (M := M0 x) (w := x + 19 + 1) (r := x + 11) (c := getW (M0 x) (x + 19 + 1)) (L := L0) (by unfold Ow; omega) h8
  rw [set_get] at c1
  generalize hM1 : setW (M0 x) (x + 19 + 1) (begC L0 (getW (M0 x) (x + 19 + 1))) = M1 at c1
  have o1 : ∀ b k, ¬ (x + 20 ≤ b ∧ b < x + 32) → M1.1 b k = (M0 x).1 b k := fun b k h => by rw [← hM1]; exact rd_Wo (by omega)
  have c2 := e_begin9 (M := M1) (w := x + 19 + 13) (r := x + 11) (c := getW M1 (x + 19 + 13)) (L := L0) (by unfold Ow; omega) (fun k hk => by rw [o1 _ _ (by omega)]; exact h8 k hk)
  rw [set_get] at c2
  generalize hM2 : setW M1 (x + 19 + 13) (begC L0 (getW M1 (x + 19 + 13))) = M2 at c2
  have o2 : ∀ b k, ¬ (x + 32 ≤ b ∧ b < x + 44) → M2.1 b k = M1.1 b k := fun b k h => by rw [← hM2]; exact rd_Wo (by omega)
  have z2 : M2.2 = (M0 x).2 := by rw [← hM2, ← hM1]; rfl
  have lv1 : Lv (begC L0 (getW (M0 x) (x + 19 + 1))) (getW M1 (x + 19 + 1)) := by rw [← hM1]; exact getset
  have lv2 : Lv (begC L0 (getW M1 (x + 19 + 13))) (getW M2 (x + 19 + 13)) := by rw [← hM2]; exact getset
  have oM : ∀ b k, ¬ (x + 20 ≤ b ∧ b < x + 44) → M2.1 b k = (M0 x).1 b k := fun b k h => by rw [o2 _ _ (by omega), o1 _ _ (by omega)]
  have o3 : ∀ b k, ¬ (b = x + 19 ∧ (k = 2 ∨ k = 5)) → (wi (wi M2 (x + 19) 2 0) (x + 19) 5 0).1 b k = M2.1 b k := fun b k h => by
    simp only [wi]
    rw [if_neg (by omega), if_neg (by omega)]
  have rr : ∀ d j, ¬ (20 ≤ d ∧ d < 44) → ¬ d = 19 → (wi (wi M2 (x + 19) 2 0) (x + 19) 5 0).1 (x + d) j = iv (BLL.getD d (9, 9)) j := fun d j h1 h2 => by
    rw [o3 _ _ (by omega), oM _ _ (by omega), M0_row]
  have hW0 : W0 L0 0 (getW M1 (x + 19 + 1)) (r0 L0) := (W0_begin L0_wf).lv lv1
  have hW2 : W0 L0 0 (getW M2 (x + 19 + 13)) (r0 L0) := (W0_begin L0_wf).lv lv2
  refine ⟨wi (wi M2 (x + 19) 2 0) (x + 19) 5 0, Wp.eq ?_, fun q hq => ⟨fun j => ?_, fun j => ?_⟩, Or.inl ⟨Or.inr ?_, ⟨fun k hk => ?_, fun k hk => ?_, ⟨?_, by decide, fun j hj => absurd hj (Nat.not_lt_zero _)⟩, ⟨?_, by decide, fun j hj => absurd hj (Nat.not_lt_zero _)⟩⟩, ⟨0, by omega, ?_, ?_, fun j hj => absurd hj (Nat.not_lt_zero _)⟩, ?_, ?_, ?_, ?_, ?_, ?_, ?_, fun j hj => ?_, ?_⟩⟩
  · unfold f_X8_begin
    exact Wp.cl c1 (Wp.cl c2 (Wp.nam (Wp.nam (Wp.ret rfl))))
  · rw [o3 _ _ (by omega), oM _ _ (by omega)]
  · show M2.2.1 q j = 0
    rw [z2]
    rfl
  · have e0 : (wi (wi M2 (x + 19) 2 0) (x + 19) 5 0).2.2 = (M0 x).2.2 := by
      show M2.2.2 = _
      rw [z2]
    rw [e0]
    exact ⟨rfl, rfl⟩
  · have e0 : (wi (wi M2 (x + 19) 2 0) (x + 19) 5 0).2.2 0 = x + 11 := by
      show M2.2.2 0 = _
      rw [z2]
      rfl
    rw [e0, rr 11 k (by decide) (by decide), b11]
    have : ∀ k, k < 8 → iv (0, 3) k = def0 k := by decide +kernel
    exact this k hk
  · have e0 : (wi (wi M2 (x + 19) 2 0) (x + 19) 5 0).2.2 0 = x + 11 := by
      show M2.2.2 0 = _
      rw [z2]
      rfl
    have e7 : (L0.1 7).toInt = 1 := rfl
    rw [e7] at hk
    have hk0 : k = 0 := by omega
    subst hk0
    rw [e0, show x + 11 + 1 = x + 12 by omega, rr 12 0 (by decide) (by decide), b12]
    rfl
  · have e0 : (wi (wi M2 (x + 19) 2 0) (x + 19) 5 0).2.2 0 = x + 11 := by
      show M2.2.2 0 = _
      rw [z2]
      rfl
    rw [e0, show x + 11 + 2 = x + 13 by omega, rr 13 1 (by decide) (by decide), b13]
    rfl
  · have e0 : (wi (wi M2 (x + 19) 2 0) (x + 19) 5 0).2.2 0 = x + 11 := by
      show M2.2.2 0 = _
      rw [z2]
      rfl
    rw [e0, show x + 11 + 5 = x + 16 by omega, rr 16 1 (by decide) (by decide), b16]
    rfl
  · rw [rr 1 1 (by decide) (by decide), b1]
    rfl
  · rw [rr 95 12 (by decide) (by decide), b95]
    rfl
  · rw [rr 1 7 (by decide) (by decide), b1, rr 95 21 (by decide) (by decide), b95]
    rfl
  · rw [rr 95 29 (by decide) (by decide), b95]
    rfl
  · rw [rr 95 9 (by decide) (by decide), b95]
    rfl
  · rw [wi_sl (by decide), wi_hit]
  · rw [wi_hit]
  · exact hW0.lv (Lv.of fun d k hd => by rw [o3 _ _ (by omega), o2 _ _ (by omega)])
  · exact hW2.lv (Lv.of fun d k hd => o3 _ _ (by omega))
  · rw [show x + 19 + 29 = x + 48 by omega, show x + 95 + 7 = x + 102 by omega, rr 48 j (by decide) (by decide), rr 102 j (by decide) (by decide), b48 j hj, b102 j hj]
  · exact (rr 0 4 (by decide) (by decide)).trans (by rw [b0]; rfl)
