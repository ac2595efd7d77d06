/-! The class's world begins -/
def begC (L : LN) (c : CW) : CW :=
  let c1 := uc c 0 0 0
  let c2 := uc (uc (uc (uc (uc (uc (uc (uc (uc (uc (uc c1 1 0 (L.1 5)) 1 1 0) 1 2 0) 1 3 0) 1 4 0) 1 5 0) 1 6 0) 1 7 0) 1 8 0) 1 12 0) 1 13 0
  let c3 := clrC (uc (uc (uc (uc (uc c2 5 0 0) 5 1 (L.1 1)) 5 2 0) 5 3 (L.1 2)) 5 4 (L.1 3))
  let c4 := uc c3 5 9 0
  let c5 := empC (uc (uc (uc (uc (uc (uc (uc (uc c4 6 0 0) 6 1 0) 6 2 0) 6 3 0) 6 4 0) 6 5 0) 6 6 0) 6 8 0)
  uc (uc (uc (uc (uc c5 9 0 0) 9 1 0) 9 2 0) 9 3 0) 9 4 0
theorem e_begin1 {M : Mem} {w r : Nat} {c : CW} {L : LN} (ho : Ow w r 8) (hL : ∀ k, k < 8 → M.1 r k = L.1 k) : f_X1_begin (w + 1) r (setW M w c) = some ((), setW M w (uc (uc (uc (uc (uc (uc (uc (uc (uc (uc (uc c 1 0 (L.1 5)) 1 1 0) 1 2 0) 1 3 0) 1 4 0) 1 5 0) 1 6 0) 1 7 0) 1 8 0) 1 12 0) 1 13 0)) := by
  have e5 : (setW M w c).1 r 5 = L.1 5 := by rw [rd_O0 ho (by decide)]; exact hL 5 (by decide)
  unfold f_X1_begin
  rw [e5]
  simp only [nm, wi_W, Nat.reduceLT]
theorem e_begin0 {M : Mem} {w : Nat} {c : CW} : f_X0_begin (w + 6) (setW M w c) = some ((), setW M w (empC (uc (uc (uc (uc (uc (uc (uc (uc c 6 0 0) 6 1 0) 6 2 0) 6 3 0) 6 4 0) 6 5 0) 6 6 0) 6 8 0))) := by
  unfold f_X0_begin
  simp only [nm, wi_W, Nat.reduceLT]
  rw [bd_eq e_empty]
theorem e_begin4 {M : Mem} {w : Nat} {c : CW} : f_X4_begin (w + 9) (setW M w c) = some ((), setW M w (uc (uc (uc (uc (uc c 9 0 0) 9 1 0) 9 2 0) 9 3 0) 9 4 0)) := by
  unfold f_X4_begin
  simp only [nm, wi_W, Nat.reduceLT]
theorem e_begin5 {M : Mem} {w r : Nat} {c : CW} {L : LN} (ho : Ow w r 8) (hL : ∀ k, k < 8 → M.1 r k = L.1 k) : f_X5_begin (w + 5) r (setW M w c) = some ((), setW M w (uc (uc (uc (uc (uc (empC (uc (uc (uc (uc (uc (uc (uc (uc (uc (clrC (uc (uc (uc (uc (uc c 5 0 0) 5 1 (L.1 1)) 5 2 0) 5 3 (L.1 2)) 5 4 (L.1 3))) 5 9 0) 6 0 0) 6 1 0) 6 2 0) 6 3 0) 6 4 0) 6 5 0) 6 6 0) 6 8 0)) 9 0 0) 9 1 0) 9 2 0) 9 3 0) 9 4 0)) := by
  have rr : ∀ (c : CW) k, k < 8 → (setW M w c).1 r k = L.1 k := fun c k hk => by rw [rd_O0 ho (by decide)]; exact hL k hk
  unfold f_X5_begin
  refine Wp.eq ?_
  have w5 : ∀ (c : CW) (k : Nat) (v : Int32), wi (setW M w c) (w + 5) k v = setW M w (uc c 5 k v) := fun c k v => wi_W (by decide)
  rw [w5]
  refine Wp.nam ?_
  rw [rr _ 1 (by decide), w5]
  refine Wp.nam ?_
  rw [w5]
  refine Wp.nam ?_
  rw [rr _ 2 (by decide), w5]
  refine Wp.nam ?_
  rw [rr _ 3 (by decide), w5]
  refine Wp.nam (Wp.cl e_clear ?_)
  rw [w5]
  exact Wp.nam (Wp.cl e_begin0 (Wp.cl e_begin4 (Wp.ret rfl)))
theorem e_begin9 {M : Mem} {w r : Nat} {c : CW} {L : LN} (ho : Ow w r 8) (hL : ∀ k, k < 8 → M.1 r k = L.1 k) : f_X9_begin w r (setW M w c) = some ((), setW M w (begC L c)) := by
  unfold f_X9_begin
  refine Wp.eq ?_
  have w0 : wi (setW M w c) w 0 0 = setW M w (uc c 0 0 0) := wi_W (d := 0) (by decide)
  rw [w0]
  exact Wp.nam (Wp.cl (e_begin1 ho hL) (Wp.cl (e_begin5 ho hL) (Wp.ret rfl)))
