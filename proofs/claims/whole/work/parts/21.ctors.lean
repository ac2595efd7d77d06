def BL (ci : Nat) : List (Nat × Nat) := [[(0, 0), (1, 64), (1, 64)], [(0, 1), (1, 40), (1, 40), (1, 40)], [(0, 2), (0, 9), (0, 1), (1, 40), (1, 40), (1, 40), (0, 5), (0, 0), (1, 64), (1, 64), (0, 4), (1, 128), (1, 128), (1, 5), (1, 5), (1, 645)], [(0, 3), (1, 16), (0, 7), (1, 700), (1, 40), (0, 7), (1, 700), (1, 40)], [(0, 4), (1, 128), (1, 128)], [(0, 5), (0, 0), (1, 64), (1, 64), (0, 4), (1, 128), (1, 128)], [(0, 6), (1, 700), (0, 3), (1, 16), (0, 7), (1, 700), (1, 40), (0, 7), (1, 700), (1, 40)], [(0, 7), (1, 700), (1, 40)], [(0, 8), (0, 9), (0, 1), (1, 40), (1, 40), (1, 40), (0, 5), (0, 0), (1, 64), (1, 64), (0, 4), (1, 128), (1, 128), (0, 9), (0, 1), (1, 40), (1, 40), (1, 40), (0, 5), (0, 0), (1, 64), (1, 64), (0, 4), (1, 128), (1, 128), (1, 40), (1, 40), (1, 8), (1, 8), (1, 3)], [(0, 9), (0, 1), (1, 40), (1, 40), (1, 40), (0, 5), (0, 0), (1, 64), (1, 64), (0, 4), (1, 128), (1, 128)], [(0, 10), (0, 6), (1, 700), (0, 3), (1, 16), (0, 7), (1, 700), (1, 40), (0, 7), (1, 700), (1, 40), (0, 3), (1, 16), (0, 7), (1, 700), (1, 40), (0, 7), (1, 700), (1, 40), (0, 8), (0, 9), (0, 1), (1, 40), (1, 40), (1, 40), (0, 5), (0, 0), (1, 64), (1, 64), (0, 4), (1, 128), (1, 128), (0, 9), (0, 1), (1, 40), (1, 40), (1, 40), (0, 5), (0, 0), (1, 64), (1, 64), (0, 4), (1, 128), (1, 128), (1, 40), (1, 40), (1, 8), (1, 8), (1, 3), (0, 8), (0, 9), (0, 1), (1, 40), (1, 40), (1, 40), (0, 5), (0, 0), (1, 64), (1, 64), (0, 4), (1, 128), (1, 128), (0, 9), (0, 1), (1, 40), (1, 40), (1, 40), (0, 5), (0, 0), (1, 64), (1, 64), (0, 4), (1, 128), (1, 128), (1, 40), (1, 40), (1, 8), (1, 8), (1, 3), (0, 2), (0, 9), (0, 1), (1, 40), (1, 40), (1, 40), (0, 5), (0, 0), (1, 64), (1, 64), (0, 4), (1, 128), (1, 128), (1, 5), (1, 5), (1, 645)], [(0, 11), (4, 4), (8, 9), (1, 20), (1, 32), (1, 1400), (1, 1400), (1, 3), (1, 665), (1, 700), (1, 4), (1, 64), (1, 8192), (1, 2048), (2, 2048), (1, 26600), (1, 665), (1, 441), (1, 8), (1, 8), (1, 199), (1, 995), (1, 665), (1, 26600), (1, 8), (1, 8), (1, 3)]].getD ci []
def iv (t : Nat × Nat) (j : Nat) : Int32 := if t = (0, 3) then ([4, 12, 4, 1, 8, 0, 1, 1] : List Int32).getD j 0 else if t = (1, 16) then (if j = 0 then 85 else 0) else if t = (0, 6) then (if j = 7 then -1 else 0) else if t = (0, 11) then (if j = 21 then -1 else 0) else if t = (1, 20) then ([4, 12, 4, 1, 8, 0, 1, 1] : List Int32).getD j 0 else 0
def Lb (G : Ctx) (a : Nat) (L : List (Nat × Nat)) : Prop := ∀ k, k < L.length → glay G (a + k) = L.getD k (0, 0)
def Zm (G : Ctx) (M : Mem) (a n : Nat) : Prop := ∀ k, k < n → (∀ j, M.1 (a + k) j = iv (glay G (a + k)) j) ∧ ∀ j, M.2.1 (a + k) j = 0
theorem Lb.sub {G : Ctx} {a a' d : Nat} {L L' : List (Nat × Nat)} (h : Lb G a L) (ha : a' = a + d) (hd : ∀ k, k < L'.length → d + k < L.length ∧ L.getD (d + k) (0, 0) = L'.getD k (0, 0)) : Lb G a' L' := fun k hk => by
  rw [ha, Nat.add_assoc, h _ (hd k hk).1, (hd k hk).2]
theorem Zm.sub {G : Ctx} {M : Mem} {a a' d n n' : Nat} (h : Zm G M a n) (ha : a' = a + d) (hd : d + n' ≤ n) : Zm G M a' n' := fun k hk => by
  rw [ha, Nat.add_assoc]
  exact h (d + k) (by omega)
theorem Lb.at {G : Ctx} {a q d : Nat} {L : List (Nat × Nat)} {t : Nat × Nat} (h : Lb G a L) (hq : q = a + d) (hd : d < L.length ∧ L.getD d (0, 0) = t) : glay G q = t := by rw [hq, h d hd.1, hd.2]
theorem Zm.at {G : Ctx} {M : Mem} {a q d n : Nat} {t : Nat × Nat} (h : Zm G M a n) (hq : q = a + d) (hd : d < n) (hg : glay G q = t) : (∀ j, M.1 q j = iv t j) ∧ ∀ j, M.2.1 q j = 0 := by subst hq; rw [← hg]; exact h d hd
theorem ab_i {G : Ctx} {M : Mem} {q n : Nat} {f : Nat → Int32} (hg : glay G q = (1, n)) (hz : (∀ j, M.1 q j = iv (1, n) j) ∧ ∀ j, M.2.1 q j = 0) (hv : ∀ j, j < n → f j = iv (1, n) j) : ∀ H, va_at (gD G) vwCl (q, .inl (gcA G 0, (n, .inl f))) H → va_at (gD G) vwCl (q, cellM G M q) H := by
  intro H h
  have e9 : cellM G M q = .inl (gcA G 0, (n, .inl (M.1 q))) := by simp [cellM, hg]
  rw [e9]
  have e8 : vp_cell (gcA G 0) (n, .inl (M.1 q)) = vp_cell (gcA G 0) (n, .inl f) := by
    rw [vp_cell_i, vp_cell_i, arrV, arrV]
    congr 2
    funext j
    rw [hv j.1 j.2, hz.1]
  show H[q]? = some (vp_cell (gcA G 0) (n, .inl (M.1 q)))
  rw [e8]
  exact h
theorem ab_z {G : Ctx} {M : Mem} {q n : Nat} {f : Nat → Int32} (hg : glay G q = (2, n)) (hz : (∀ j, M.1 q j = iv (2, n) j) ∧ ∀ j, M.2.1 q j = 0) (hv : ∀ j, j < n → f j = iv (2, n) j) : ∀ H, va_at (gD G) vwCl (q, .inl (gcA G 1, (n, .inl f))) H → va_at (gD G) vwCl (q, cellM G M q) H := by
  intro H h
  have e9 : cellM G M q = .inl (gcA G 1, (n, .inl (M.1 q))) := by simp [cellM, hg]
  rw [e9]
  have e8 : vp_cell (gcA G 1) (n, .inl (M.1 q)) = vp_cell (gcA G 1) (n, .inl f) := by
    rw [vp_cell_i, vp_cell_i, arrV, arrV]
    congr 2
    funext j
    rw [hv j.1 j.2, hz.1]
  show H[q]? = some (vp_cell (gcA G 1) (n, .inl (M.1 q)))
  rw [e8]
  exact h
theorem ab_j {G : Ctx} {M : Mem} {q n : Nat} (hg : glay G q = (3, n)) (hz : ∀ j, M.2.1 q j = 0) : ∀ H, va_at (gD G) vwCl (q, .inl (gcA G 2, (n, .inr (.inl (fun _ => 0))))) H → va_at (gD G) vwCl (q, cellM G M q) H := by
  intro H h
  have e9 : cellM G M q = .inl (gcA G 2, (n, .inr (.inl (fun _ => 0)))) := by
    have : M.2.1 q = fun _ => 0 := funext hz
    simp [cellM, hg, this]
  rw [e9]
  exact h
theorem ab_s {G : Ctx} {M : Mem} {q n t : Nat} {f : Nat → Option Nat} (hg : glay G q = (t + 4, n)) (hv : ∀ j, j < n → f j = some (gaK G (t + j))) : ∀ H, va_at (gD G) vwCl (q, .inl (gcA G 3, (n, .inr (.inr (.inr (.inr f)))))) H → va_at (gD G) vwCl (q, cellM G M q) H := by
  intro H h
  have e9 : cellM G M q = .inl (gcA G 3, (n, .inr (.inr (.inr (.inr (fun k => some (gaK G (t + k)))))))) := by simp [cellM, hg]
  rw [e9]
  have e8 : vp_cell (gcA G 3) (n, .inr (.inr (.inr (.inr (fun k => some (gaK G (t + k))))))) = vp_cell (gcA G 3) (n, .inr (.inr (.inr (.inr f)))) := by
    rw [vp_cell_q, vp_cell_q, arrV, arrV]
    congr 2
    funext j
    rw [hv j.1 j.2]
  show H[q]? = some (vp_cell (gcA G 3) (n, .inr (.inr (.inr (.inr (fun k => some (gaK G (t + k))))))))
  rw [e8]
  exact h
theorem ab_i0 {G : Ctx} {M : Mem} {q n : Nat} (hg : glay G q = (1, n)) (hz : ∀ j, M.1 q j = 0) : ∀ H, va_at (gD G) vwCl (q, .inl (gcA G 0, (n, .inl (fun _ => 0)))) H → va_at (gD G) vwCl (q, cellM G M q) H := by
  intro H h
  have e9 : cellM G M q = .inl (gcA G 0, (n, .inl (fun _ => 0))) := by
    have : M.1 q = fun _ => 0 := funext hz
    simp [cellM, hg, this]
  rw [e9]
  exact h
theorem own_ok {G : Ctx} {M : Mem} {a ci : Nat} {S : List Nat} (hz : (∀ j, M.1 a j = iv (0, ci) j) ∧ ∀ j, M.2.1 a j = 0) (hd : ∀ k, k < nfl ci → k ∈ S ∨ ((fkd ci k).1 = 0 ∧ iv (0, ci) k = 0)) : ∀ k, k < nfl ci → k ∈ S ∨ ((fkd ci k).1 = 0 ∧ M.1 a k = 0) := fun k hk => (hd k hk).imp id (fun h => ⟨h.1, (hz.1 k).trans h.2⟩)
theorem fin_id {G : Ctx} {M : Mem} {a mc : Nat} (H : Heap) (h : va_P (gD G) vwCl ([(a, cellM G M a)] ++ va_pl (seg (a + 1) mc) (cellM G M)) H) : va_P (gD G) vwCl (va_pl (seg a (mc + 1)) (cellM G M)) H := by rw [seg_cons]; exact h
theorem ownF_nil {M M' : Mem} {a ci : Nat} : ownF M a ci [] = ownF M' a ci [] := by simp [ownF]
theorem fc_RX7_9 {q : Nat} : FC RX7 9 7 0 (.ref q) := ⟨_, _, _, rfl, rfl, by decide, gin 140 (by decide +kernel) rfl, rfl, (.array .int), by decide +kernel, rfl, rfl⟩
theorem fc_RX7_15 {q : Nat} : FC RX7 15 7 2 (.ref q) := ⟨_, _, _, rfl, rfl, by decide, gin 142 (by decide +kernel) rfl, rfl, (.array .int), by decide +kernel, rfl, rfl⟩
theorem fc_RX3_7 {q : Nat} : FC RX3 7 3 8 (.ref q) := ⟨_, _, _, rfl, rfl, by decide, gin 194 (by decide +kernel) rfl, rfl, (.array .int), by decide +kernel, rfl, rfl⟩
theorem nw_RX3_13 : ∃ C T N, vwCl[7]? = some (C, T, N) ∧ N = nfl 7 ∧ Cond.classLink RX3 13 C ∈ gw ∧ Cond.instantiable C N ∈ gw ∧ Cond.initialized C ∈ gw ∧ ∀ j, j < N → (parseFieldDescriptor (T j).2.2.1).map defaultValue = some (if (fkd 7 j).1 = 0 then .int 0 else .null) := ⟨_, _, _, rfl, rfl, gin 134 (by decide +kernel) rfl, gin 135 (by decide +kernel) rfl, gin 93 (by decide +kernel) rfl, by decide +kernel⟩
theorem in_X7 : yX7_init.name = "<init>" ∧ Cond.instanceMethod yX7_init ∈ gw := ⟨rfl, gin 137 (by decide +kernel) rfl⟩
theorem lm_X7_init : lkM yX7_init cX7_init 1 none 0 := ⟨gin 138 (by decide +kernel) rfl, gin 93 (by decide +kernel) rfl, by decide +kernel⟩
theorem fc_RX3_16 {q : Nat} : FC RX3 16 3 9 (.ref q) := ⟨_, _, _, rfl, rfl, by decide, gin 196 (by decide +kernel) rfl, rfl, (.object "CircuitCells$Rule"), by decide +kernel, rfl, rfl⟩
theorem fc_RX3_20 {q : Nat} : FC RX3 20 3 10 (.ref q) := ⟨_, _, _, rfl, rfl, by decide, gin 199 (by decide +kernel) rfl, rfl, (.object "CircuitCells$Rule"), by decide +kernel, rfl, rfl⟩
theorem ll_RX3_23 : Cond.methodLink RX3 23 yX3_clear ∈ gw := gin 151 (by decide +kernel) rfl
theorem fc_RX6_9 {q : Nat} : FC RX6 9 6 0 (.ref q) := ⟨_, _, _, rfl, rfl, by decide, gin 225 (by decide +kernel) rfl, rfl, (.array .int), by decide +kernel, rfl, rfl⟩
theorem fc_RX6_15 {v : Int32} : FC RX6 15 6 7 (.int v) := ⟨_, _, _, rfl, rfl, by decide, gin 233 (by decide +kernel) rfl, rfl, .int, by decide +kernel, rfl, rfl⟩
theorem nw_RX6_19 : ∃ C T N, vwCl[3]? = some (C, T, N) ∧ N = nfl 3 ∧ Cond.classLink RX6 19 C ∈ gw ∧ Cond.instantiable C N ∈ gw ∧ Cond.initialized C ∈ gw ∧ ∀ j, j < N → (parseFieldDescriptor (T j).2.2.1).map defaultValue = some (if (fkd 3 j).1 = 0 then .int 0 else .null) := ⟨_, _, _, rfl, rfl, gin 128 (by decide +kernel) rfl, gin 129 (by decide +kernel) rfl, gin 92 (by decide +kernel) rfl, by decide +kernel⟩
theorem in_X3 : yX3_init.name = "<init>" ∧ Cond.instanceMethod yX3_init ∈ gw := ⟨rfl, gin 131 (by decide +kernel) rfl⟩
theorem lm_X3_init : lkM yX3_init cX3_init 1 none 0 := ⟨gin 132 (by decide +kernel) rfl, gin 92 (by decide +kernel) rfl, by decide +kernel⟩
theorem ll_RX6_21 : Cond.methodLink RX6 21 yX3_init ∈ gw := gin 130 (by decide +kernel) rfl
theorem fc_RX6_22 {q : Nat} : FC RX6 22 6 8 (.ref q) := ⟨_, _, _, rfl, rfl, by decide, gin 235 (by decide +kernel) rfl, rfl, (.object "CircuitCells$Line"), by decide +kernel, rfl, rfl⟩
theorem fc_RX6_30 {q : Nat} : FC RX6 30 6 9 (.ref q) := ⟨_, _, _, rfl, rfl, by decide, gin 236 (by decide +kernel) rfl, rfl, (.object "CircuitCells$Rule"), by decide +kernel, rfl, rfl⟩
theorem fc_RX0_9 {q : Nat} : FC RX0 9 0 9 (.ref q) := ⟨_, _, _, rfl, rfl, by decide, gin 375 (by decide +kernel) rfl, rfl, (.array .int), by decide +kernel, rfl, rfl⟩
theorem fc_RX0_15 {q : Nat} : FC RX0 15 0 10 (.ref q) := ⟨_, _, _, rfl, rfl, by decide, gin 376 (by decide +kernel) rfl, rfl, (.array .int), by decide +kernel, rfl, rfl⟩
theorem fc_RX4_9 {q : Nat} : FC RX4 9 4 5 (.ref q) := ⟨_, _, _, rfl, rfl, by decide, gin 418 (by decide +kernel) rfl, rfl, (.array .int), by decide +kernel, rfl, rfl⟩
theorem fc_RX4_15 {q : Nat} : FC RX4 15 4 6 (.ref q) := ⟨_, _, _, rfl, rfl, by decide, gin 419 (by decide +kernel) rfl, rfl, (.array .int), by decide +kernel, rfl, rfl⟩
theorem fc_RX1_11 {q : Nat} : FC RX1 11 1 9 (.ref q) := ⟨_, _, _, rfl, rfl, by decide, gin 305 (by decide +kernel) rfl, rfl, (.array .int), by decide +kernel, rfl, rfl⟩
theorem fc_RX1_15 {q : Nat} : FC RX1 15 1 10 (.ref q) := ⟨_, _, _, rfl, rfl, by decide, gin 308 (by decide +kernel) rfl, rfl, (.array .int), by decide +kernel, rfl, rfl⟩
theorem fc_RX1_18 {q : Nat} : FC RX1 18 1 11 (.ref q) := ⟨_, _, _, rfl, rfl, by decide, gin 311 (by decide +kernel) rfl, rfl, (.array .int), by decide +kernel, rfl, rfl⟩
theorem nw_RX5_9 : ∃ C T N, vwCl[0]? = some (C, T, N) ∧ N = nfl 0 ∧ Cond.classLink RX5 9 C ∈ gw ∧ Cond.instantiable C N ∈ gw ∧ Cond.initialized C ∈ gw ∧ ∀ j, j < N → (parseFieldDescriptor (T j).2.2.1).map defaultValue = some (if (fkd 0 j).1 = 0 then .int 0 else .null) := ⟨_, _, _, rfl, rfl, gin 353 (by decide +kernel) rfl, gin 354 (by decide +kernel) rfl, gin 98 (by decide +kernel) rfl, by decide +kernel⟩
theorem in_X0 : yX0_init.name = "<init>" ∧ Cond.instanceMethod yX0_init ∈ gw := ⟨rfl, gin 356 (by decide +kernel) rfl⟩
theorem lm_X0_init : lkM yX0_init cX0_init 1 none 0 := ⟨gin 357 (by decide +kernel) rfl, gin 98 (by decide +kernel) rfl, by decide +kernel⟩
theorem fc_RX5_12 {q : Nat} : FC RX5 12 5 10 (.ref q) := ⟨_, _, _, rfl, rfl, by decide, gin 462 (by decide +kernel) rfl, rfl, (.object "CircuitCells$Buffer"), by decide +kernel, rfl, rfl⟩
theorem nw_RX5_18 : ∃ C T N, vwCl[4]? = some (C, T, N) ∧ N = nfl 4 ∧ Cond.classLink RX5 18 C ∈ gw ∧ Cond.instantiable C N ∈ gw ∧ Cond.initialized C ∈ gw ∧ ∀ j, j < N → (parseFieldDescriptor (T j).2.2.1).map defaultValue = some (if (fkd 4 j).1 = 0 then .int 0 else .null) := ⟨_, _, _, rfl, rfl, gin 400 (by decide +kernel) rfl, gin 401 (by decide +kernel) rfl, gin 99 (by decide +kernel) rfl, by decide +kernel⟩
theorem in_X4 : yX4_init.name = "<init>" ∧ Cond.instanceMethod yX4_init ∈ gw := ⟨rfl, gin 403 (by decide +kernel) rfl⟩
theorem lm_X4_init : lkM yX4_init cX4_init 1 none 0 := ⟨gin 404 (by decide +kernel) rfl, gin 99 (by decide +kernel) rfl, by decide +kernel⟩
theorem fc_RX5_21 {q : Nat} : FC RX5 21 5 11 (.ref q) := ⟨_, _, _, rfl, rfl, by decide, gin 466 (by decide +kernel) rfl, rfl, (.object "CircuitCells$Log"), by decide +kernel, rfl, rfl⟩
theorem nw_RX9_9 : ∃ C T N, vwCl[1]? = some (C, T, N) ∧ N = nfl 1 ∧ Cond.classLink RX9 9 C ∈ gw ∧ Cond.instantiable C N ∈ gw ∧ Cond.initialized C ∈ gw ∧ ∀ j, j < N → (parseFieldDescriptor (T j).2.2.1).map defaultValue = some (if (fkd 1 j).1 = 0 then .int 0 else .null) := ⟨_, _, _, rfl, rfl, gin 275 (by decide +kernel) rfl, gin 276 (by decide +kernel) rfl, gin 96 (by decide +kernel) rfl, by decide +kernel⟩
theorem in_X1 : yX1_init.name = "<init>" ∧ Cond.instanceMethod yX1_init ∈ gw := ⟨rfl, gin 278 (by decide +kernel) rfl⟩
theorem lm_X1_init : lkM yX1_init cX1_init 1 none 0 := ⟨gin 279 (by decide +kernel) rfl, gin 96 (by decide +kernel) rfl, by decide +kernel⟩
theorem fc_RX9_12 {q : Nat} : FC RX9 12 9 1 (.ref q) := ⟨_, _, _, rfl, rfl, by decide, gin 496 (by decide +kernel) rfl, rfl, (.object "CircuitCells$Far"), by decide +kernel, rfl, rfl⟩
theorem nw_RX9_18 : ∃ C T N, vwCl[5]? = some (C, T, N) ∧ N = nfl 5 ∧ Cond.classLink RX9 18 C ∈ gw ∧ Cond.instantiable C N ∈ gw ∧ Cond.initialized C ∈ gw ∧ ∀ j, j < N → (parseFieldDescriptor (T j).2.2.1).map defaultValue = some (if (fkd 5 j).1 = 0 then .int 0 else .null) := ⟨_, _, _, rfl, rfl, gin 347 (by decide +kernel) rfl, gin 348 (by decide +kernel) rfl, gin 97 (by decide +kernel) rfl, by decide +kernel⟩
theorem in_X5 : yX5_init.name = "<init>" ∧ Cond.instanceMethod yX5_init ∈ gw := ⟨rfl, gin 350 (by decide +kernel) rfl⟩
theorem lm_X5_init : lkM yX5_init cX5_init 1 none 0 := ⟨gin 351 (by decide +kernel) rfl, gin 97 (by decide +kernel) rfl, by decide +kernel⟩
theorem fc_RX9_21 {q : Nat} : FC RX9 21 9 2 (.ref q) := ⟨_, _, _, rfl, rfl, by decide, gin 499 (by decide +kernel) rfl, rfl, (.object "CircuitCells$Near"), by decide +kernel, rfl, rfl⟩
theorem nw_RX8_9 : ∃ C T N, vwCl[9]? = some (C, T, N) ∧ N = nfl 9 ∧ Cond.classLink RX8 9 C ∈ gw ∧ Cond.instantiable C N ∈ gw ∧ Cond.initialized C ∈ gw ∧ ∀ j, j < N → (parseFieldDescriptor (T j).2.2.1).map defaultValue = some (if (fkd 9 j).1 = 0 then .int 0 else .null) := ⟨_, _, _, rfl, rfl, gin 269 (by decide +kernel) rfl, gin 270 (by decide +kernel) rfl, gin 95 (by decide +kernel) rfl, by decide +kernel⟩
theorem in_X9 : yX9_init.name = "<init>" ∧ Cond.instanceMethod yX9_init ∈ gw := ⟨rfl, gin 272 (by decide +kernel) rfl⟩
theorem lm_X9_init : lkM yX9_init cX9_init 1 none 0 := ⟨gin 273 (by decide +kernel) rfl, gin 95 (by decide +kernel) rfl, by decide +kernel⟩
theorem fc_RX8_12 {q : Nat} : FC RX8 12 8 0 (.ref q) := ⟨_, _, _, rfl, rfl, by decide, gin 509 (by decide +kernel) rfl, rfl, (.object "CircuitCells$World"), by decide +kernel, rfl, rfl⟩
theorem fc_RX8_18 {q : Nat} : FC RX8 18 8 1 (.ref q) := ⟨_, _, _, rfl, rfl, by decide, gin 512 (by decide +kernel) rfl, rfl, (.object "CircuitCells$World"), by decide +kernel, rfl, rfl⟩
theorem fc_RX8_21 {q : Nat} : FC RX8 21 8 3 (.ref q) := ⟨_, _, _, rfl, rfl, by decide, gin 515 (by decide +kernel) rfl, rfl, (.array .int), by decide +kernel, rfl, rfl⟩
theorem fc_RX8_25 {q : Nat} : FC RX8 25 8 4 (.ref q) := ⟨_, _, _, rfl, rfl, by decide, gin 516 (by decide +kernel) rfl, rfl, (.array .int), by decide +kernel, rfl, rfl⟩
theorem fc_RX8_28 {q : Nat} : FC RX8 28 8 6 (.ref q) := ⟨_, _, _, rfl, rfl, by decide, gin 519 (by decide +kernel) rfl, rfl, (.array .int), by decide +kernel, rfl, rfl⟩
theorem fc_RX8_31 {q : Nat} : FC RX8 31 8 7 (.ref q) := ⟨_, _, _, rfl, rfl, by decide, gin 520 (by decide +kernel) rfl, rfl, (.array .int), by decide +kernel, rfl, rfl⟩
theorem fc_RX8_34 {q : Nat} : FC RX8 34 8 8 (.ref q) := ⟨_, _, _, rfl, rfl, by decide, gin 521 (by decide +kernel) rfl, rfl, (.array .int), by decide +kernel, rfl, rfl⟩
theorem nw_RX2_9 : ∃ C T N, vwCl[9]? = some (C, T, N) ∧ N = nfl 9 ∧ Cond.classLink RX2 9 C ∈ gw ∧ Cond.instantiable C N ∈ gw ∧ Cond.initialized C ∈ gw ∧ ∀ j, j < N → (parseFieldDescriptor (T j).2.2.1).map defaultValue = some (if (fkd 9 j).1 = 0 then .int 0 else .null) := ⟨_, _, _, rfl, rfl, gin 548 (by decide +kernel) rfl, gin 270 (by decide +kernel) rfl, gin 95 (by decide +kernel) rfl, by decide +kernel⟩
theorem fc_RX2_12 {q : Nat} : FC RX2 12 2 0 (.ref q) := ⟨_, _, _, rfl, rfl, by decide, gin 550 (by decide +kernel) rfl, rfl, (.object "CircuitCells$World"), by decide +kernel, rfl, rfl⟩
theorem fc_RX2_18 {q : Nat} : FC RX2 18 2 6 (.ref q) := ⟨_, _, _, rfl, rfl, by decide, gin 560 (by decide +kernel) rfl, rfl, (.array .int), by decide +kernel, rfl, rfl⟩
theorem fc_RX2_22 {q : Nat} : FC RX2 22 2 7 (.ref q) := ⟨_, _, _, rfl, rfl, by decide, gin 561 (by decide +kernel) rfl, rfl, (.array .int), by decide +kernel, rfl, rfl⟩
theorem fc_RX2_25 {q : Nat} : FC RX2 25 2 8 (.ref q) := ⟨_, _, _, rfl, rfl, by decide, gin 562 (by decide +kernel) rfl, rfl, (.array .int), by decide +kernel, rfl, rfl⟩
theorem nw_RX10_7 : ∃ C T N, vwCl[6]? = some (C, T, N) ∧ N = nfl 6 ∧ Cond.classLink RX10 7 C ∈ gw ∧ Cond.instantiable C N ∈ gw ∧ Cond.initialized C ∈ gw ∧ ∀ j, j < N → (parseFieldDescriptor (T j).2.2.1).map defaultValue = some (if (fkd 6 j).1 = 0 then .int 0 else .null) := ⟨_, _, _, rfl, rfl, gin 122 (by decide +kernel) rfl, gin 123 (by decide +kernel) rfl, gin 91 (by decide +kernel) rfl, by decide +kernel⟩
theorem in_X6 : yX6_init.name = "<init>" ∧ Cond.instanceMethod yX6_init ∈ gw := ⟨rfl, gin 125 (by decide +kernel) rfl⟩
theorem lm_X6_init : lkM yX6_init cX6_init 1 none 0 := ⟨gin 126 (by decide +kernel) rfl, gin 91 (by decide +kernel) rfl, by decide +kernel⟩
theorem fc_RX10_10 {q : Nat} : FC RX10 10 10 0 (.ref q) := ⟨_, _, _, rfl, rfl, by decide, gin 617 (by decide +kernel) rfl, rfl, (.object "CircuitCells$Reader"), by decide +kernel, rfl, rfl⟩
theorem nw_RX10_16 : ∃ C T N, vwCl[3]? = some (C, T, N) ∧ N = nfl 3 ∧ Cond.classLink RX10 16 C ∈ gw ∧ Cond.instantiable C N ∈ gw ∧ Cond.initialized C ∈ gw ∧ ∀ j, j < N → (parseFieldDescriptor (T j).2.2.1).map defaultValue = some (if (fkd 3 j).1 = 0 then .int 0 else .null) := ⟨_, _, _, rfl, rfl, gin 261 (by decide +kernel) rfl, gin 129 (by decide +kernel) rfl, gin 92 (by decide +kernel) rfl, by decide +kernel⟩
theorem ll_RX10_18 : Cond.methodLink RX10 18 yX3_init ∈ gw := gin 262 (by decide +kernel) rfl
theorem fc_RX10_19 {q : Nat} : FC RX10 19 10 1 (.ref q) := ⟨_, _, _, rfl, rfl, by decide, gin 618 (by decide +kernel) rfl, rfl, (.object "CircuitCells$Line"), by decide +kernel, rfl, rfl⟩
theorem nw_RX10_23 : ∃ C T N, vwCl[8]? = some (C, T, N) ∧ N = nfl 8 ∧ Cond.classLink RX10 23 C ∈ gw ∧ Cond.instantiable C N ∈ gw ∧ Cond.initialized C ∈ gw ∧ ∀ j, j < N → (parseFieldDescriptor (T j).2.2.1).map defaultValue = some (if (fkd 8 j).1 = 0 then .int 0 else .null) := ⟨_, _, _, rfl, rfl, gin 263 (by decide +kernel) rfl, gin 264 (by decide +kernel) rfl, gin 94 (by decide +kernel) rfl, by decide +kernel⟩
theorem in_X8 : yX8_init.name = "<init>" ∧ Cond.instanceMethod yX8_init ∈ gw := ⟨rfl, gin 266 (by decide +kernel) rfl⟩
theorem lm_X8_init : lkM yX8_init cX8_init 1 none 0 := ⟨gin 267 (by decide +kernel) rfl, gin 94 (by decide +kernel) rfl, by decide +kernel⟩
theorem fc_RX10_26 {q : Nat} : FC RX10 26 10 2 (.ref q) := ⟨_, _, _, rfl, rfl, by decide, gin 619 (by decide +kernel) rfl, rfl, (.object "CircuitCells$Session"), by decide +kernel, rfl, rfl⟩
theorem fc_RX10_30 {q : Nat} : FC RX10 30 10 3 (.ref q) := ⟨_, _, _, rfl, rfl, by decide, gin 620 (by decide +kernel) rfl, rfl, (.object "CircuitCells$Session"), by decide +kernel, rfl, rfl⟩
theorem nw_RX10_33 : ∃ C T N, vwCl[2]? = some (C, T, N) ∧ N = nfl 2 ∧ Cond.classLink RX10 33 C ∈ gw ∧ Cond.instantiable C N ∈ gw ∧ Cond.initialized C ∈ gw ∧ ∀ j, j < N → (parseFieldDescriptor (T j).2.2.1).map defaultValue = some (if (fkd 2 j).1 = 0 then .int 0 else .null) := ⟨_, _, _, rfl, rfl, gin 542 (by decide +kernel) rfl, gin 543 (by decide +kernel) rfl, gin 100 (by decide +kernel) rfl, by decide +kernel⟩
theorem in_X2 : yX2_init.name = "<init>" ∧ Cond.instanceMethod yX2_init ∈ gw := ⟨rfl, gin 545 (by decide +kernel) rfl⟩
theorem lm_X2_init : lkM yX2_init cX2_init 1 none 0 := ⟨gin 546 (by decide +kernel) rfl, gin 100 (by decide +kernel) rfl, by decide +kernel⟩
theorem fc_RX10_36 {q : Nat} : FC RX10 36 10 5 (.ref q) := ⟨_, _, _, rfl, rfl, by decide, gin 622 (by decide +kernel) rfl, rfl, (.object "CircuitCells$Forecast"), by decide +kernel, rfl, rfl⟩
theorem fc_RX11_19 {q : Nat} : FC RX11 19 11 0 (.ref q) := ⟨_, _, _, rfl, rfl, by decide, gin 1427 (by decide +kernel) rfl, rfl, (.array (.object "java/lang/String")), by decide +kernel, rfl, rfl⟩
theorem fc_RX11_41 {q : Nat} : FC RX11 41 11 1 (.ref q) := ⟨_, _, _, rfl, rfl, by decide, gin 1428 (by decide +kernel) rfl, rfl, (.array (.object "java/lang/String")), by decide +kernel, rfl, rfl⟩
theorem fc_RX11_44 {q : Nat} : FC RX11 44 11 3 (.ref q) := ⟨_, _, _, rfl, rfl, by decide, gin 1430 (by decide +kernel) rfl, rfl, (.array .int), by decide +kernel, rfl, rfl⟩
theorem fc_RX11_48 {q : Nat} : FC RX11 48 11 4 (.ref q) := ⟨_, _, _, rfl, rfl, by decide, gin 1431 (by decide +kernel) rfl, rfl, (.array .int), by decide +kernel, rfl, rfl⟩
theorem fc_RX11_50 {q : Nat} : FC RX11 50 11 5 (.ref q) := ⟨_, _, _, rfl, rfl, by decide, gin 1432 (by decide +kernel) rfl, rfl, (.array .int), by decide +kernel, rfl, rfl⟩
theorem fc_RX11_53 {q : Nat} : FC RX11 53 11 6 (.ref q) := ⟨_, _, _, rfl, rfl, by decide, gin 1433 (by decide +kernel) rfl, rfl, (.array .int), by decide +kernel, rfl, rfl⟩
theorem fc_RX11_56 {q : Nat} : FC RX11 56 11 7 (.ref q) := ⟨_, _, _, rfl, rfl, by decide, gin 1434 (by decide +kernel) rfl, rfl, (.array .int), by decide +kernel, rfl, rfl⟩
theorem fc_RX11_59 {q : Nat} : FC RX11 59 11 8 (.ref q) := ⟨_, _, _, rfl, rfl, by decide, gin 1435 (by decide +kernel) rfl, rfl, (.array .int), by decide +kernel, rfl, rfl⟩
theorem fc_RX11_62 {q : Nat} : FC RX11 62 11 11 (.ref q) := ⟨_, _, _, rfl, rfl, by decide, gin 1438 (by decide +kernel) rfl, rfl, (.array .int), by decide +kernel, rfl, rfl⟩
theorem fc_RX11_65 {v : Int32} : FC RX11 65 11 21 (.int v) := ⟨_, _, _, rfl, rfl, by decide, gin 1448 (by decide +kernel) rfl, rfl, .int, by decide +kernel, rfl, rfl⟩
theorem fc_RX11_69 {q : Nat} : FC RX11 69 11 22 (.ref q) := ⟨_, _, _, rfl, rfl, by decide, gin 1449 (by decide +kernel) rfl, rfl, (.array .int), by decide +kernel, rfl, rfl⟩
theorem fc_RX11_72 {q : Nat} : FC RX11 72 11 23 (.ref q) := ⟨_, _, _, rfl, rfl, by decide, gin 1450 (by decide +kernel) rfl, rfl, (.array .int), by decide +kernel, rfl, rfl⟩
theorem fc_RX11_75 {q : Nat} : FC RX11 75 11 26 (.ref q) := ⟨_, _, _, rfl, rfl, by decide, gin 1453 (by decide +kernel) rfl, rfl, (.array .int), by decide +kernel, rfl, rfl⟩
theorem fc_RX11_78 {q : Nat} : FC RX11 78 11 27 (.ref q) := ⟨_, _, _, rfl, rfl, by decide, gin 1454 (by decide +kernel) rfl, rfl, (.array .int), by decide +kernel, rfl, rfl⟩
theorem fc_RX11_81 {q : Nat} : FC RX11 81 11 28 (.ref q) := ⟨_, _, _, rfl, rfl, by decide, gin 1455 (by decide +kernel) rfl, rfl, (.array .boolean), by decide +kernel, rfl, rfl⟩
theorem fc_RX11_85 {q : Nat} : FC RX11 85 11 33 (.ref q) := ⟨_, _, _, rfl, rfl, by decide, gin 1460 (by decide +kernel) rfl, rfl, (.array .int), by decide +kernel, rfl, rfl⟩
theorem fc_RX11_88 {q : Nat} : FC RX11 88 11 34 (.ref q) := ⟨_, _, _, rfl, rfl, by decide, gin 1461 (by decide +kernel) rfl, rfl, (.array .int), by decide +kernel, rfl, rfl⟩
theorem fc_RX11_91 {q : Nat} : FC RX11 91 11 35 (.ref q) := ⟨_, _, _, rfl, rfl, by decide, gin 1462 (by decide +kernel) rfl, rfl, (.array .int), by decide +kernel, rfl, rfl⟩
theorem fc_RX11_94 {q : Nat} : FC RX11 94 11 38 (.ref q) := ⟨_, _, _, rfl, rfl, by decide, gin 1465 (by decide +kernel) rfl, rfl, (.array .int), by decide +kernel, rfl, rfl⟩
theorem fc_RX11_97 {q : Nat} : FC RX11 97 11 39 (.ref q) := ⟨_, _, _, rfl, rfl, by decide, gin 1466 (by decide +kernel) rfl, rfl, (.array .int), by decide +kernel, rfl, rfl⟩
theorem fc_RX11_100 {q : Nat} : FC RX11 100 11 40 (.ref q) := ⟨_, _, _, rfl, rfl, by decide, gin 1467 (by decide +kernel) rfl, rfl, (.array .int), by decide +kernel, rfl, rfl⟩
theorem fc_RX11_103 {q : Nat} : FC RX11 103 11 41 (.ref q) := ⟨_, _, _, rfl, rfl, by decide, gin 1468 (by decide +kernel) rfl, rfl, (.array .int), by decide +kernel, rfl, rfl⟩
theorem fc_RX11_106 {q : Nat} : FC RX11 106 11 47 (.ref q) := ⟨_, _, _, rfl, rfl, by decide, gin 1474 (by decide +kernel) rfl, rfl, (.array .int), by decide +kernel, rfl, rfl⟩
theorem fc_RX11_109 {q : Nat} : FC RX11 109 11 48 (.ref q) := ⟨_, _, _, rfl, rfl, by decide, gin 1475 (by decide +kernel) rfl, rfl, (.array .int), by decide +kernel, rfl, rfl⟩
theorem fc_RX11_112 {q : Nat} : FC RX11 112 11 49 (.ref q) := ⟨_, _, _, rfl, rfl, by decide, gin 1476 (by decide +kernel) rfl, rfl, (.array .int), by decide +kernel, rfl, rfl⟩
theorem fc_RX11_115 {q : Nat} : FC RX11 115 11 50 (.ref q) := ⟨_, _, _, rfl, rfl, by decide, gin 1477 (by decide +kernel) rfl, rfl, (.array .int), by decide +kernel, rfl, rfl⟩
theorem fc_RX11_118 {q : Nat} : FC RX11 118 11 51 (.ref q) := ⟨_, _, _, rfl, rfl, by decide, gin 1478 (by decide +kernel) rfl, rfl, (.array .int), by decide +kernel, rfl, rfl⟩
theorem hs9 {G : Ctx} {a n d : Nat} {t : Nat × Nat} {L : List (Nat × Nat)} (h : Lb G a L) (hd : d < L.length ∧ L.getD d (0, 0) = t) (hn : d < n) : hs (gS G (seg a n)) (a + d) t := ⟨mem_seg.mpr ⟨by omega, by omega⟩, (h d hd.1).trans hd.2⟩
def wfB (L : List (Nat × Nat)) : Bool := (cloT.all fun q => (List.range L.length).all fun k => !decide (L.getD k (0, 0) = (0, q.1)) || (decide (k + q.2.1 < L.length) && decide (L.getD (k + q.2.1) (0, 0) = q.2.2))) && ((List.range L.length).all fun k => (List.range L.length).all fun j => !(decide (L.getD k (0, 0) = (0, 6)) && decide (L.getD j (0, 0) = (0, 6)) || decide (L.getD k (0, 0) = (0, 10)) && decide (L.getD j (0, 0) = (0, 10))) || decide (k = j))
theorem wf_BL {G : Ctx} {a : Nat} {L : List (Nat × Nat)} (h : Lb G a L) (hb : wfB L = true) : WFG (gS G (seg a L.length)) := by
  have hd : (∀ q ∈ cloT, ∀ k, k < L.length → L.getD k (0, 0) = (0, q.1) → k + q.2.1 < L.length ∧ L.getD (k + q.2.1) (0, 0) = q.2.2) ∧ ∀ k, k < L.length → ∀ j, j < L.length → ((L.getD k (0, 0) = (0, 6) ∧ L.getD j (0, 0) = (0, 6)) ∨ (L.getD k (0, 0) = (0, 10) ∧ L.getD j (0, 0) = (0, 10))) → k = j := by
    unfold wfB at hb
    rw [Bool.and_eq_true] at hb
    refine ⟨fun q hq k hk h1 => ?_, fun k hk j hj h1 => ?_⟩
    · have h2 := List.all_eq_true.mp (List.all_eq_true.mp hb.1 q hq) k (List.mem_range.mpr hk)
      rw [decide_eq_true h1] at h2
      simpa using h2
    · have h2 := List.all_eq_true.mp (List.all_eq_true.mp hb.2 k (List.mem_range.mpr hk)) j (List.mem_range.mpr hj)
      rcases h1 with ⟨h3, h4⟩ | ⟨h3, h4⟩
      · rw [decide_eq_true h3, decide_eq_true h4] at h2
        simpa using h2
      · rw [decide_eq_true h3, decide_eq_true h4] at h2
        simpa using h2
  have key : ∀ b t, hs (gS G (seg a L.length)) b t → ∃ k, k < L.length ∧ b = a + k ∧ L.getD k (0, 0) = t := fun b t hb => by
    obtain ⟨h1, h2⟩ := hb
    have h3 := mem_seg.mp h1
    refine ⟨b - a, by omega, by omega, ?_⟩
    rw [← h (b - a) (by omega), show a + (b - a) = b by omega]
    exact h2
  refine ⟨seg_nodup _ _, fun q hq b hb => ?_, fun b c ci h6 hb hc => ?_⟩
  · obtain ⟨k, hk, rfl, ht⟩ := key b _ hb
    obtain ⟨h1, h2⟩ := hd.1 q hq k hk ht
    refine ⟨mem_seg.mpr ⟨by omega, by omega⟩, ?_⟩
    show glay G _ = _
    rw [Nat.add_assoc, h _ h1, h2]
  · obtain ⟨k, hk, rfl, ht⟩ := key b _ hb
    obtain ⟨j, hj, rfl, hu⟩ := key c _ hc
    rw [hd.2 k hk j hj (by rcases h6 with rfl | rfl; exact Or.inl ⟨ht, hu⟩; exact Or.inr ⟨ht, hu⟩)]
theorem Rk.mem0 {G : Ctx} {X0 : List Nat} {cc : ByteArray} {own : String} {nL F Lo NC NS sz : Nat} {ini : Prop} {w : va_W → va_W → Mem → Nat → Nat → Nat → List (Nat × Value) → List Value → Prop} {X : va_W} {M M1 : Mem} {ks pc : Nat} {ls : List (Nat × Value)} {st : List Value} (h : Rk G X0 cc own nL F Lo NC NS sz ini w) (kk : w X [] M1 0 ks pc ls st) : w X [] M 0 ks pc ls st := by
  obtain ⟨⟨hnd, hlt⟩, p, e, R, s, m, args, below, meth, c, Q, ⟨hx, hb, hml, hown, hts, hK, hSK, hAO, hF, hLo, hNC, hNS⟩, rfl, hin, rfl⟩ := h
  intro H locs lsA hX hE hP hS hl
  exact kk H locs lsA hX hE hP hS hl
theorem x3_clear {G : Ctx} {a : Nat} {M : Mem} (hL : Lb G a (BL 3)) (hZ : Zm G M a 8) : ∃ M0 M9 : Mem, f_X3_clear a M0 = some ((), M9) ∧ (∀ q, q ∈ seg a 8 → cellM G M9 q = cellM G M q) ∧ (∀ j, M0.1 a j = 0) ∧ (∀ j, M0.1 (a + 1) j = 0) ∧ (∀ q, q ≠ a → q ≠ a + 1 → M0.1 q = M.1 q) ∧ M0.2 = M.2 := by
  refine ⟨((fun b j => if b = a ∨ b = a + 1 then 0 else M.1 b j), M.2), wi (wi (wi (wi (wi (wi (wi (wi (wi (wi (wi ((fun b j => if b = a ∨ b = a + 1 then 0 else M.1 b j), M.2) a 0 4) a 1 12) a 2 4) a 3 1) a 4 8) a 5 0) a 6 1) a 7 1) (a + 1) 0 85) (a + 2) 1 0) (a + 5) 1 0, rfl, fun q hq => ?_, fun j => by simp, fun j => by simp, fun q h1 h2 => by funext j; simp [h1, h2], rfl⟩
  have hq9 := mem_seg.mp hq
  have key : ∀ M9 : Mem, M9.2 = M.2 → (∀ j, M9.1 q j = M.1 q j) → cellM G M9 q = cellM G M q := fun M9 h2 h1 => by
    have h3 : M9.1 q = M.1 q := funext h1
    have h4 : ∀ ci k, fvl M9 q ci k = fvl M q ci k := fun ci k => by unfold fvl; rw [h1, h2]
    have h5 : ∀ ci, flds M9 q ci = flds M q ci := fun ci => by unfold flds; exact List.map_congr_left (fun k _ => h4 ci k)
    unfold cellM
    simp only [h2, h3, h5]
  refine key _ rfl (fun j => ?_)
  obtain ⟨k, hk, rfl⟩ : ∃ k, k < 8 ∧ q = a + k := ⟨q - a, by omega, by omega⟩
  have g0 := (hZ 0 (by decide)).1 j
  have g1 := (hZ 1 (by decide)).1 j
  have g2 := (hZ 2 (by decide)).1 1
  have g5 := (hZ 5 (by decide)).1 1
  rw [hL 0 (by decide)] at g0
  rw [hL 1 (by decide)] at g1
  rw [hL 2 (by decide)] at g2
  rw [hL 5 (by decide)] at g5
  have h9 : k = 0 ∨ k = 1 ∨ k = 2 ∨ k = 3 ∨ k = 4 ∨ k = 5 ∨ k = 6 ∨ k = 7 := by omega
  rcases h9 with rfl | rfl | rfl | rfl | rfl | rfl | rfl | rfl
  · rw [g0]
    rcases j with _ | _ | _ | _ | _ | _ | _ | _ | j <;> simp [wi, iv, BL]
  · rw [g1]
    by_cases hj : j = 0 <;> simp [wi, iv, BL, hj]
  · by_cases hj : j = 1
    · subst hj
      rw [g2]
      simp [wi, iv, BL]
    · simp [wi, hj]
  · simp [wi]
  · simp [wi]
  · by_cases hj : j = 1
    · subst hj
      rw [g5]
      simp [wi, iv, BL]
    · simp [wi, hj]
  · simp [wi]
  · simp [wi]
set_option maxRecDepth 20000 in
theorem k_X7 {G : Ctx} {a : Nat} {M : Mem} (hL : Lb G a (BL 7)) (hZ : Zm G M a 3) : CtI G yX7_init cX7_init 1 1 12 2 740 7 a M := by
  refine ct_new (by decide +kernel) (by decide) rfl (fun w h hr => ?_)
  have h : Rk G [a] cX7_init RX7 1 1 12 2 740 (a + 1) True w := h
  refine h.aload_n 0 dX7_init_0 rfl ?_
  refine h.objInit (gin 139 (by decide +kernel) rfl) ⟨by decide, by decide⟩ dX7_init_1 ?_
  refine h.aload_n 0 dX7_init_4 rfl ?_
  refine h.sipush (v := (700 : Int32)) dX7_init_5 (by decide) ?_
  refine h.newI (n := 700) ⟨by decide, by decide⟩ ⟨by decide, by decide, by decide⟩ dX7_init_8 ?_
  refine h.absorb (ab_i (hL.at (d := 1) (by omega) (by decide +kernel)) (hZ.at (d := 1) (by omega) (by decide) (hL.at (d := 1) (by omega) (by decide +kernel))) (fun j _ => by simp [iv])) ?_
  refine h.putF trivial rfl fc_RX7_9 rfl dX7_init_10 ?_
  refine h.aload_n 0 dX7_init_13 rfl ?_
  refine h.bipush (v := (40 : Int32)) dX7_init_14 (by decide) ?_
  refine h.newI (n := 40) ⟨by decide, by decide⟩ ⟨by decide, by decide, by decide⟩ dX7_init_16 ?_
  refine h.absorb (ab_i (hL.at (d := 2) (by omega) (by decide +kernel)) (hZ.at (d := 2) (by omega) (by decide) (hL.at (d := 2) (by omega) (by decide +kernel))) (fun j _ => by simp [iv])) ?_
  refine h.putF trivial rfl fc_RX7_15 rfl dX7_init_18 ?_
  refine h.done (hL.at (d := 0) rfl (by decide +kernel)) (own_ok (G := G) (hZ.at (d := 0) rfl (by decide) (hL.at (d := 0) rfl (by decide +kernel))) (by decide +kernel)) ?_
  exact hr _ _ _ _ dX7_init_21 fin_id
set_option maxRecDepth 20000 in
theorem k_X3 {G : Ctx} {a : Nat} {M : Mem} (hL : Lb G a (BL 3)) (hZ : Zm G M a 8) : CtI G yX3_init cX3_init 1 2 42 7 1502 3 a M := by
  obtain ⟨M0, M9, hf, hfr, hM0, hM1, hMq, hMl⟩ := x3_clear hL hZ
  have hW : WFG (gS G (seg a 8)) := wf_BL hL (by decide +kernel)
  have hZ2 : Zm G M0 (a + 2) 6 := fun k hk => by
    have h9 := hZ (2 + k) (by omega)
    rw [← Nat.add_assoc] at h9
    rw [hMq (a + 2 + k) (by omega) (by omega), hMl]
    exact h9
  have hfin : ∀ H, va_P (gD G) vwCl ([(a, cellM G M9 a)] ++ va_pl (seg (a + 1) 7) (cellM G M9)) H → va_P (gD G) vwCl (va_pl (seg a 8) (cellM G M)) H := fun H h => by
    have h1 := fin_id H h
    rw [show va_pl (seg a 8) (cellM G M) = va_pl (seg a 8) (cellM G M9) from List.map_congr_left (fun q hq => by rw [hfr q hq])]
    exact h1
  refine ct_new (by decide +kernel) (by decide) rfl (fun w h hr => ?_)
  have h : Rk G [a] cX3_init RX3 1 2 42 7 1502 (a + 1) True w := h
  rw [show ownF M a 3 [] = ownF M0 a 3 [] from ownF_nil]
  refine h.mem0 (M1 := M0) ?_
  have h0own : ∀ k, k < nfl 3 → k ∈ [10, 9, 8] ∨ ((fkd 3 k).1 = 0 ∧ M0.1 a k = 0) := fun k hk => ((by decide +kernel : ∀ k, k < nfl 3 → k ∈ [10, 9, 8] ∨ (fkd 3 k).1 = 0) k hk).imp id (fun h => ⟨h, hM0 k⟩)
  refine h.aload_n 0 dX3_init_0 rfl ?_
  refine h.objInit (gin 133 (by decide +kernel) rfl) ⟨by decide, by decide⟩ dX3_init_1 ?_
  refine h.aload_n 0 dX3_init_4 rfl ?_
  refine h.bipush (v := (16 : Int32)) dX3_init_5 (by decide) ?_
  refine h.newI (n := 16) ⟨by decide, by decide⟩ ⟨by decide, by decide, by decide⟩ dX3_init_7 ?_
  refine h.absorb (ab_i0 (hL.at (d := 1) (by omega) (by decide +kernel)) hM1) ?_
  refine h.putF trivial rfl fc_RX3_7 rfl dX3_init_9 ?_
  refine h.aload_n 0 dX3_init_12 rfl ?_
  refine h.newO nw_RX3_13 ⟨by decide, by decide⟩ dX3_init_13 ?_
  refine h.dup dX3_init_16 rfl ?_
  refine h.childN (k_X7 (a := a + 1 + 1) (hL.sub (d := 2) (by omega) (by decide +kernel)) (hZ2.sub (d := 0) (by omega) (by decide))) lm_X7_init in_X7 1 rfl (Nat.le_of_ble_eq_true rfl) ⟨by decide, by decide⟩ ⟨by decide, by decide⟩ dX3_init_17 ?_
  refine h.putF trivial rfl fc_RX3_16 rfl dX3_init_20 ?_
  refine h.aload_n 0 dX3_init_23 rfl ?_
  refine h.newO nw_RX3_13 ⟨by decide, by decide⟩ dX3_init_24 ?_
  refine h.dup dX3_init_27 rfl ?_
  refine h.childN (k_X7 (a := a + 1 + 4) (hL.sub (d := 5) (by omega) (by decide +kernel)) (hZ2.sub (d := 3) (by omega) (by decide))) lm_X7_init in_X7 1 rfl (Nat.le_of_ble_eq_true rfl) ⟨by decide, by decide⟩ ⟨by decide, by decide⟩ dX3_init_28 ?_
  refine h.putF trivial rfl fc_RX3_20 rfl dX3_init_31 ?_
  refine h.aload_n 0 dX3_init_34 rfl ?_
  refine h.done (hL.at (d := 0) rfl (by decide +kernel)) (h0own) ?_
  refine h.callV (As := []) (rest := []) (c_X3_clear hW (hs9 hL (d := 0) (by decide) (by decide)) hf) lm_X3_clear lv_m_X3_clear ll_RX3_23 (hs9 hL (d := 0) (by decide) (by decide)) lc_3 rfl rfl (Nat.le_of_ble_eq_true rfl) ⟨by decide, by decide⟩ ⟨by decide, by decide⟩ dX3_init_35 ?_
  exact hr _ _ _ _ dX3_init_38 hfin
set_option maxRecDepth 20000 in
theorem k_X6 {G : Ctx} {a : Nat} {M : Mem} (hL : Lb G a (BL 6)) (hZ : Zm G M a 10) (hd1 : M.2.2 1 = a + 2) (hd2 : M.2.2 2 = a + 4) : CtI G yX6_init cX6_init 1 3 62 9 2213 6 a M := by
  refine ct_new (by decide +kernel) (by decide) rfl (fun w h hr => ?_)
  have h : Rk G [a] cX6_init RX6 1 3 62 9 2213 (a + 1) True w := h
  refine h.aload_n 0 dX6_init_0 rfl ?_
  refine h.objInit (gin 127 (by decide +kernel) rfl) ⟨by decide, by decide⟩ dX6_init_1 ?_
  refine h.aload_n 0 dX6_init_4 rfl ?_
  refine h.sipush (v := (700 : Int32)) dX6_init_5 (by decide) ?_
  refine h.newI (n := 700) ⟨by decide, by decide⟩ ⟨by decide, by decide, by decide⟩ dX6_init_8 ?_
  refine h.absorb (ab_i (hL.at (d := 1) (by omega) (by decide +kernel)) (hZ.at (d := 1) (by omega) (by decide) (hL.at (d := 1) (by omega) (by decide +kernel))) (fun j _ => by simp [iv])) ?_
  refine h.putF trivial rfl fc_RX6_9 rfl dX6_init_10 ?_
  refine h.aload_n 0 dX6_init_13 rfl ?_
  refine h.iconst (v := (-1 : Int32)) dX6_init_14 (by decide) ?_
  refine h.putF trivial rfl fc_RX6_15 (by show Value.int _ = _; rw [(hZ.at (q := a) (d := 0) (t := (0, 6)) rfl (by decide) (hL.at (q := a) (d := 0) rfl (by decide +kernel))).1]; rfl) dX6_init_15 ?_
  refine h.aload_n 0 dX6_init_18 rfl ?_
  refine h.newO nw_RX6_19 ⟨by decide, by decide⟩ dX6_init_19 ?_
  refine h.dup dX6_init_22 rfl ?_
  refine h.child (k_X3 (a := a + 1 + 1) (hL.sub (d := 2) (by omega) (by decide +kernel)) (hZ.sub (d := 2) (by omega) (by decide))) lm_X3_init in_X3 ll_RX6_21 (Nat.le_of_ble_eq_true rfl) ⟨by decide, by decide⟩ ⟨by decide, by decide⟩ dX6_init_23 ?_
  refine h.putF trivial rfl fc_RX6_22 (by show Value.ref (M.2.2 1) = _; rw [hd1]) dX6_init_26 ?_
  refine h.aload_n 0 dX6_init_29 rfl ?_
  refine h.aload_n 0 dX6_init_30 rfl ?_
  refine h.getO (v := .ref (a + 2)) lf_RX6_22 (by decide) dX6_init_31 (by show Value.ref (M.2.2 1) = _; rw [hd1]) ?_
  refine h.getP (b := a + 2) (v := .ref (a + 4)) (mem_seg.mpr ⟨by omega, by omega⟩) (hL.at (d := 2) rfl (by decide +kernel)) lf_RX6_26 dX6_init_34 rfl ?_
  refine h.putF trivial rfl fc_RX6_30 (by show Value.ref (M.2.2 2) = _; rw [hd2]) dX6_init_37 ?_
  refine h.done (hL.at (d := 0) rfl (by decide +kernel)) (own_ok (G := G) (hZ.at (d := 0) rfl (by decide) (hL.at (d := 0) rfl (by decide +kernel))) (by decide +kernel)) ?_
  exact hr _ _ _ _ dX6_init_40 fin_id
set_option maxRecDepth 20000 in
theorem k_X0 {G : Ctx} {a : Nat} {M : Mem} (hL : Lb G a (BL 0)) (hZ : Zm G M a 3) : CtI G yX0_init cX0_init 1 1 12 2 128 0 a M := by
  refine ct_new (by decide +kernel) (by decide) rfl (fun w h hr => ?_)
  have h : Rk G [a] cX0_init RX0 1 1 12 2 128 (a + 1) True w := h
  refine h.aload_n 0 dX0_init_0 rfl ?_
  refine h.objInit (gin 358 (by decide +kernel) rfl) ⟨by decide, by decide⟩ dX0_init_1 ?_
  refine h.aload_n 0 dX0_init_4 rfl ?_
  refine h.bipush (v := (64 : Int32)) dX0_init_5 (by decide) ?_
  refine h.newI (n := 64) ⟨by decide, by decide⟩ ⟨by decide, by decide, by decide⟩ dX0_init_7 ?_
  refine h.absorb (ab_i (hL.at (d := 1) (by omega) (by decide +kernel)) (hZ.at (d := 1) (by omega) (by decide) (hL.at (d := 1) (by omega) (by decide +kernel))) (fun j _ => by simp [iv])) ?_
  refine h.putF trivial rfl fc_RX0_9 rfl dX0_init_9 ?_
  refine h.aload_n 0 dX0_init_12 rfl ?_
  refine h.bipush (v := (64 : Int32)) dX0_init_13 (by decide) ?_
  refine h.newI (n := 64) ⟨by decide, by decide⟩ ⟨by decide, by decide, by decide⟩ dX0_init_15 ?_
  refine h.absorb (ab_i (hL.at (d := 2) (by omega) (by decide +kernel)) (hZ.at (d := 2) (by omega) (by decide) (hL.at (d := 2) (by omega) (by decide +kernel))) (fun j _ => by simp [iv])) ?_
  refine h.putF trivial rfl fc_RX0_15 rfl dX0_init_17 ?_
  refine h.done (hL.at (d := 0) rfl (by decide +kernel)) (own_ok (G := G) (hZ.at (d := 0) rfl (by decide) (hL.at (d := 0) rfl (by decide +kernel))) (by decide +kernel)) ?_
  exact hr _ _ _ _ dX0_init_20 fin_id
set_option maxRecDepth 20000 in
theorem k_X4 {G : Ctx} {a : Nat} {M : Mem} (hL : Lb G a (BL 4)) (hZ : Zm G M a 3) : CtI G yX4_init cX4_init 1 1 12 2 256 4 a M := by
  refine ct_new (by decide +kernel) (by decide) rfl (fun w h hr => ?_)
  have h : Rk G [a] cX4_init RX4 1 1 12 2 256 (a + 1) True w := h
  refine h.aload_n 0 dX4_init_0 rfl ?_
  refine h.objInit (gin 405 (by decide +kernel) rfl) ⟨by decide, by decide⟩ dX4_init_1 ?_
  refine h.aload_n 0 dX4_init_4 rfl ?_
  refine h.sipush (v := (128 : Int32)) dX4_init_5 (by decide) ?_
  refine h.newI (n := 128) ⟨by decide, by decide⟩ ⟨by decide, by decide, by decide⟩ dX4_init_8 ?_
  refine h.absorb (ab_i (hL.at (d := 1) (by omega) (by decide +kernel)) (hZ.at (d := 1) (by omega) (by decide) (hL.at (d := 1) (by omega) (by decide +kernel))) (fun j _ => by simp [iv])) ?_
  refine h.putF trivial rfl fc_RX4_9 rfl dX4_init_10 ?_
  refine h.aload_n 0 dX4_init_13 rfl ?_
  refine h.sipush (v := (128 : Int32)) dX4_init_14 (by decide) ?_
  refine h.newI (n := 128) ⟨by decide, by decide⟩ ⟨by decide, by decide, by decide⟩ dX4_init_17 ?_
  refine h.absorb (ab_i (hL.at (d := 2) (by omega) (by decide +kernel)) (hZ.at (d := 2) (by omega) (by decide) (hL.at (d := 2) (by omega) (by decide +kernel))) (fun j _ => by simp [iv])) ?_
  refine h.putF trivial rfl fc_RX4_15 rfl dX4_init_19 ?_
  refine h.done (hL.at (d := 0) rfl (by decide +kernel)) (own_ok (G := G) (hZ.at (d := 0) rfl (by decide) (hL.at (d := 0) rfl (by decide +kernel))) (by decide +kernel)) ?_
  exact hr _ _ _ _ dX4_init_22 fin_id
set_option maxRecDepth 20000 in
theorem k_X1 {G : Ctx} {a : Nat} {M : Mem} (hL : Lb G a (BL 1)) (hZ : Zm G M a 4) : CtI G yX1_init cX1_init 1 1 12 3 120 1 a M := by
  refine ct_new (by decide +kernel) (by decide) rfl (fun w h hr => ?_)
  have h : Rk G [a] cX1_init RX1 1 1 12 3 120 (a + 1) True w := h
  refine h.aload_n 0 dX1_init_0 rfl ?_
  refine h.objInit (gin 280 (by decide +kernel) rfl) ⟨by decide, by decide⟩ dX1_init_1 ?_
  refine h.aload_n 0 dX1_init_4 rfl ?_
  refine h.bipush (v := (40 : Int32)) dX1_init_5 (by decide) ?_
  refine h.newI (n := 40) ⟨by decide, by decide⟩ ⟨by decide, by decide, by decide⟩ dX1_init_7 ?_
  refine h.absorb (ab_i (hL.at (d := 1) (by omega) (by decide +kernel)) (hZ.at (d := 1) (by omega) (by decide) (hL.at (d := 1) (by omega) (by decide +kernel))) (fun j _ => by simp [iv])) ?_
  refine h.putF trivial rfl fc_RX1_11 rfl dX1_init_9 ?_
  refine h.aload_n 0 dX1_init_12 rfl ?_
  refine h.bipush (v := (40 : Int32)) dX1_init_13 (by decide) ?_
  refine h.newI (n := 40) ⟨by decide, by decide⟩ ⟨by decide, by decide, by decide⟩ dX1_init_15 ?_
  refine h.absorb (ab_i (hL.at (d := 2) (by omega) (by decide +kernel)) (hZ.at (d := 2) (by omega) (by decide) (hL.at (d := 2) (by omega) (by decide +kernel))) (fun j _ => by simp [iv])) ?_
  refine h.putF trivial rfl fc_RX1_15 rfl dX1_init_17 ?_
  refine h.aload_n 0 dX1_init_20 rfl ?_
  refine h.bipush (v := (40 : Int32)) dX1_init_21 (by decide) ?_
  refine h.newI (n := 40) ⟨by decide, by decide⟩ ⟨by decide, by decide, by decide⟩ dX1_init_23 ?_
  refine h.absorb (ab_i (hL.at (d := 3) (by omega) (by decide +kernel)) (hZ.at (d := 3) (by omega) (by decide) (hL.at (d := 3) (by omega) (by decide +kernel))) (fun j _ => by simp [iv])) ?_
  refine h.putF trivial rfl fc_RX1_18 rfl dX1_init_25 ?_
  refine h.done (hL.at (d := 0) rfl (by decide +kernel)) (own_ok (G := G) (hZ.at (d := 0) rfl (by decide) (hL.at (d := 0) rfl (by decide +kernel))) (by decide +kernel)) ?_
  exact hr _ _ _ _ dX1_init_28 fin_id
set_option maxRecDepth 20000 in
theorem k_X5 {G : Ctx} {a : Nat} {M : Mem} (hL : Lb G a (BL 5)) (hZ : Zm G M a 7) : CtI G yX5_init cX5_init 1 2 32 6 402 5 a M := by
  refine ct_new (by decide +kernel) (by decide) rfl (fun w h hr => ?_)
  have h : Rk G [a] cX5_init RX5 1 2 32 6 402 (a + 1) True w := h
  refine h.aload_n 0 dX5_init_0 rfl ?_
  refine h.objInit (gin 352 (by decide +kernel) rfl) ⟨by decide, by decide⟩ dX5_init_1 ?_
  refine h.aload_n 0 dX5_init_4 rfl ?_
  refine h.newO nw_RX5_9 ⟨by decide, by decide⟩ dX5_init_5 ?_
  refine h.dup dX5_init_8 rfl ?_
  refine h.childN (k_X0 (a := a + 1 + 0) (hL.sub (d := 1) (by omega) (by decide +kernel)) (hZ.sub (d := 1) (by omega) (by decide))) lm_X0_init in_X0 7 rfl (Nat.le_of_ble_eq_true rfl) ⟨by decide, by decide⟩ ⟨by decide, by decide⟩ dX5_init_9 ?_
  refine h.putF trivial rfl fc_RX5_12 rfl dX5_init_12 ?_
  refine h.aload_n 0 dX5_init_15 rfl ?_
  refine h.newO nw_RX5_18 ⟨by decide, by decide⟩ dX5_init_16 ?_
  refine h.dup dX5_init_19 rfl ?_
  refine h.childN (k_X4 (a := a + 1 + 3) (hL.sub (d := 4) (by omega) (by decide +kernel)) (hZ.sub (d := 4) (by omega) (by decide))) lm_X4_init in_X4 8 rfl (Nat.le_of_ble_eq_true rfl) ⟨by decide, by decide⟩ ⟨by decide, by decide⟩ dX5_init_20 ?_
  refine h.putF trivial rfl fc_RX5_21 rfl dX5_init_23 ?_
  refine h.done (hL.at (d := 0) rfl (by decide +kernel)) (own_ok (G := G) (hZ.at (d := 0) rfl (by decide) (hL.at (d := 0) rfl (by decide +kernel))) (by decide +kernel)) ?_
  exact hr _ _ _ _ dX5_init_26 fin_id
set_option maxRecDepth 20000 in
theorem k_X9 {G : Ctx} {a : Nat} {M : Mem} (hL : Lb G a (BL 9)) (hZ : Zm G M a 12) : CtI G yX9_init cX9_init 1 3 52 11 548 9 a M := by
  refine ct_new (by decide +kernel) (by decide) rfl (fun w h hr => ?_)
  have h : Rk G [a] cX9_init RX9 1 3 52 11 548 (a + 1) True w := h
  refine h.aload_n 0 dX9_init_0 rfl ?_
  refine h.objInit (gin 274 (by decide +kernel) rfl) ⟨by decide, by decide⟩ dX9_init_1 ?_
  refine h.aload_n 0 dX9_init_4 rfl ?_
  refine h.newO nw_RX9_9 ⟨by decide, by decide⟩ dX9_init_5 ?_
  refine h.dup dX9_init_8 rfl ?_
  refine h.childN (k_X1 (a := a + 1 + 0) (hL.sub (d := 1) (by omega) (by decide +kernel)) (hZ.sub (d := 1) (by omega) (by decide))) lm_X1_init in_X1 5 rfl (Nat.le_of_ble_eq_true rfl) ⟨by decide, by decide⟩ ⟨by decide, by decide⟩ dX9_init_9 ?_
  refine h.putF trivial rfl fc_RX9_12 rfl dX9_init_12 ?_
  refine h.aload_n 0 dX9_init_15 rfl ?_
  refine h.newO nw_RX9_18 ⟨by decide, by decide⟩ dX9_init_16 ?_
  refine h.dup dX9_init_19 rfl ?_
  refine h.childN (k_X5 (a := a + 1 + 4) (hL.sub (d := 5) (by omega) (by decide +kernel)) (hZ.sub (d := 5) (by omega) (by decide))) lm_X5_init in_X5 6 rfl (Nat.le_of_ble_eq_true rfl) ⟨by decide, by decide⟩ ⟨by decide, by decide⟩ dX9_init_20 ?_
  refine h.putF trivial rfl fc_RX9_21 rfl dX9_init_23 ?_
  refine h.done (hL.at (d := 0) rfl (by decide +kernel)) (own_ok (G := G) (hZ.at (d := 0) rfl (by decide) (hL.at (d := 0) rfl (by decide +kernel))) (by decide +kernel)) ?_
  exact hr _ _ _ _ dX9_init_26 fin_id
set_option maxRecDepth 20000 in
theorem k_X8 {G : Ctx} {a : Nat} {M : Mem} (hL : Lb G a (BL 8)) (hZ : Zm G M a 30) : CtI G yX8_init cX8_init 1 4 72 29 1201 8 a M := by
  refine ct_new (by decide +kernel) (by decide) rfl (fun w h hr => ?_)
  have h : Rk G [a] cX8_init RX8 1 4 72 29 1201 (a + 1) True w := h
  refine h.aload_n 0 dX8_init_0 rfl ?_
  refine h.objInit (gin 268 (by decide +kernel) rfl) ⟨by decide, by decide⟩ dX8_init_1 ?_
  refine h.aload_n 0 dX8_init_4 rfl ?_
  refine h.newO nw_RX8_9 ⟨by decide, by decide⟩ dX8_init_5 ?_
  refine h.dup dX8_init_8 rfl ?_
  refine h.childN (k_X9 (a := a + 1 + 0) (hL.sub (d := 1) (by omega) (by decide +kernel)) (hZ.sub (d := 1) (by omega) (by decide))) lm_X9_init in_X9 4 rfl (Nat.le_of_ble_eq_true rfl) ⟨by decide, by decide⟩ ⟨by decide, by decide⟩ dX8_init_9 ?_
  refine h.putF trivial rfl fc_RX8_12 rfl dX8_init_12 ?_
  refine h.aload_n 0 dX8_init_15 rfl ?_
  refine h.newO nw_RX8_9 ⟨by decide, by decide⟩ dX8_init_16 ?_
  refine h.dup dX8_init_19 rfl ?_
  refine h.childN (k_X9 (a := a + 1 + 12) (hL.sub (d := 13) (by omega) (by decide +kernel)) (hZ.sub (d := 13) (by omega) (by decide))) lm_X9_init in_X9 4 rfl (Nat.le_of_ble_eq_true rfl) ⟨by decide, by decide⟩ ⟨by decide, by decide⟩ dX8_init_20 ?_
  refine h.putF trivial rfl fc_RX8_18 rfl dX8_init_23 ?_
  refine h.aload_n 0 dX8_init_26 rfl ?_
  refine h.bipush (v := (40 : Int32)) dX8_init_27 (by decide) ?_
  refine h.newI (n := 40) ⟨by decide, by decide⟩ ⟨by decide, by decide, by decide⟩ dX8_init_29 ?_
  refine h.absorb (ab_i (hL.at (d := 25) (by omega) (by decide +kernel)) (hZ.at (d := 25) (by omega) (by decide) (hL.at (d := 25) (by omega) (by decide +kernel))) (fun j _ => by simp [iv])) ?_
  refine h.putF trivial rfl fc_RX8_21 rfl dX8_init_31 ?_
  refine h.aload_n 0 dX8_init_34 rfl ?_
  refine h.bipush (v := (40 : Int32)) dX8_init_35 (by decide) ?_
  refine h.newI (n := 40) ⟨by decide, by decide⟩ ⟨by decide, by decide, by decide⟩ dX8_init_37 ?_
  refine h.absorb (ab_i (hL.at (d := 26) (by omega) (by decide +kernel)) (hZ.at (d := 26) (by omega) (by decide) (hL.at (d := 26) (by omega) (by decide +kernel))) (fun j _ => by simp [iv])) ?_
  refine h.putF trivial rfl fc_RX8_25 rfl dX8_init_39 ?_
  refine h.aload_n 0 dX8_init_42 rfl ?_
  refine h.bipush (v := (8 : Int32)) dX8_init_43 (by decide) ?_
  refine h.newI (n := 8) ⟨by decide, by decide⟩ ⟨by decide, by decide, by decide⟩ dX8_init_45 ?_
  refine h.absorb (ab_i (hL.at (d := 27) (by omega) (by decide +kernel)) (hZ.at (d := 27) (by omega) (by decide) (hL.at (d := 27) (by omega) (by decide +kernel))) (fun j _ => by simp [iv])) ?_
  refine h.putF trivial rfl fc_RX8_28 rfl dX8_init_47 ?_
  refine h.aload_n 0 dX8_init_50 rfl ?_
  refine h.bipush (v := (8 : Int32)) dX8_init_51 (by decide) ?_
  refine h.newI (n := 8) ⟨by decide, by decide⟩ ⟨by decide, by decide, by decide⟩ dX8_init_53 ?_
  refine h.absorb (ab_i (hL.at (d := 28) (by omega) (by decide +kernel)) (hZ.at (d := 28) (by omega) (by decide) (hL.at (d := 28) (by omega) (by decide +kernel))) (fun j _ => by simp [iv])) ?_
  refine h.putF trivial rfl fc_RX8_31 rfl dX8_init_55 ?_
  refine h.aload_n 0 dX8_init_58 rfl ?_
  refine h.iconst (v := (3 : Int32)) dX8_init_59 (by decide) ?_
  refine h.newI (n := 3) ⟨by decide, by decide⟩ ⟨by decide, by decide, by decide⟩ dX8_init_60 ?_
  refine h.absorb (ab_i (hL.at (d := 29) (by omega) (by decide +kernel)) (hZ.at (d := 29) (by omega) (by decide) (hL.at (d := 29) (by omega) (by decide +kernel))) (fun j _ => by simp [iv])) ?_
  refine h.putF trivial rfl fc_RX8_34 rfl dX8_init_62 ?_
  refine h.done (hL.at (d := 0) rfl (by decide +kernel)) (own_ok (G := G) (hZ.at (d := 0) rfl (by decide) (hL.at (d := 0) rfl (by decide +kernel))) (by decide +kernel)) ?_
  exact hr _ _ _ _ dX8_init_65 fin_id
set_option maxRecDepth 20000 in
theorem k_X2 {G : Ctx} {a : Nat} {M : Mem} (hL : Lb G a (BL 2)) (hZ : Zm G M a 16) : CtI G yX2_init cX2_init 1 4 72 15 1206 2 a M := by
  refine ct_new (by decide +kernel) (by decide) rfl (fun w h hr => ?_)
  have h : Rk G [a] cX2_init RX2 1 4 72 15 1206 (a + 1) True w := h
  refine h.aload_n 0 dX2_init_0 rfl ?_
  refine h.objInit (gin 547 (by decide +kernel) rfl) ⟨by decide, by decide⟩ dX2_init_1 ?_
  refine h.aload_n 0 dX2_init_4 rfl ?_
  refine h.newO nw_RX2_9 ⟨by decide, by decide⟩ dX2_init_5 ?_
  refine h.dup dX2_init_8 rfl ?_
  refine h.childN (k_X9 (a := a + 1 + 0) (hL.sub (d := 1) (by omega) (by decide +kernel)) (hZ.sub (d := 1) (by omega) (by decide))) lm_X9_init in_X9 10 rfl (Nat.le_of_ble_eq_true rfl) ⟨by decide, by decide⟩ ⟨by decide, by decide⟩ dX2_init_9 ?_
  refine h.putF trivial rfl fc_RX2_12 rfl dX2_init_12 ?_
  refine h.aload_n 0 dX2_init_15 rfl ?_
  refine h.iconst (v := (5 : Int32)) dX2_init_16 (by decide) ?_
  refine h.newI (n := 5) ⟨by decide, by decide⟩ ⟨by decide, by decide, by decide⟩ dX2_init_17 ?_
  refine h.absorb (ab_i (hL.at (d := 13) (by omega) (by decide +kernel)) (hZ.at (d := 13) (by omega) (by decide) (hL.at (d := 13) (by omega) (by decide +kernel))) (fun j _ => by simp [iv])) ?_
  refine h.putF trivial rfl fc_RX2_18 rfl dX2_init_19 ?_
  refine h.aload_n 0 dX2_init_22 rfl ?_
  refine h.iconst (v := (5 : Int32)) dX2_init_23 (by decide) ?_
  refine h.newI (n := 5) ⟨by decide, by decide⟩ ⟨by decide, by decide, by decide⟩ dX2_init_24 ?_
  refine h.absorb (ab_i (hL.at (d := 14) (by omega) (by decide +kernel)) (hZ.at (d := 14) (by omega) (by decide) (hL.at (d := 14) (by omega) (by decide +kernel))) (fun j _ => by simp [iv])) ?_
  refine h.putF trivial rfl fc_RX2_22 rfl dX2_init_26 ?_
  refine h.aload_n 0 dX2_init_29 rfl ?_
  refine h.sipush (v := (645 : Int32)) dX2_init_30 (by decide) ?_
  refine h.newI (n := 645) ⟨by decide, by decide⟩ ⟨by decide, by decide, by decide⟩ dX2_init_33 ?_
  refine h.absorb (ab_i (hL.at (d := 15) (by omega) (by decide +kernel)) (hZ.at (d := 15) (by omega) (by decide) (hL.at (d := 15) (by omega) (by decide +kernel))) (fun j _ => by simp [iv])) ?_
  refine h.putF trivial rfl fc_RX2_25 rfl dX2_init_35 ?_
  refine h.done (hL.at (d := 0) rfl (by decide +kernel)) (own_ok (G := G) (hZ.at (d := 0) rfl (by decide) (hL.at (d := 0) rfl (by decide +kernel))) (by decide +kernel)) ?_
  exact hr _ _ _ _ dX2_init_38 fin_id
set_option maxRecDepth 20000 in
theorem k_X10 {G : Ctx} {a : Nat} {M : Mem} (hL : Lb G a (BL 10)) (hZ : Zm G M a 95) (hd0 : M.2.2 0 = a + 11) (hd1 : M.2.2 1 = a + 1 + 2) (hd2 : M.2.2 2 = a + 1 + 4) {M9 : Mem} (hf : f_X8_begin (a + 19) (a + 11) M = some ((), M9)) : CtI G yX10_init cX10_init 1 6 126 94 7372 10 a M9 := by
  have hW : WFG (gS G (seg a 95)) := wf_BL hL (by decide +kernel)
  refine ct_new (by decide +kernel) (by decide) rfl (fun w h hr => ?_)
  have h : Rk G [a] cX10_init RX10 1 6 126 94 7372 (a + 1) True w := h
  rw [show ownF M9 a 10 [] = ownF M a 10 [] from ownF_nil]
  refine h.mem0 (M1 := M) ?_
  refine h.aload_n 0 dX10_init_0 rfl ?_
  refine h.objInit (gin 119 (by decide +kernel) rfl) ⟨by decide, by decide⟩ dX10_init_1 ?_
  refine h.aload_n 0 dX10_init_4 rfl ?_
  refine h.newO nw_RX10_7 ⟨by decide, by decide⟩ dX10_init_5 ?_
  refine h.dup dX10_init_8 rfl ?_
  refine h.childN (k_X6 (a := a + 1 + 0) (hL.sub (d := 1) (by omega) (by decide +kernel)) (hZ.sub (d := 1) (by omega) (by decide)) hd1 hd2) lm_X6_init in_X6 0 rfl (Nat.le_of_ble_eq_true rfl) ⟨by decide, by decide⟩ ⟨by decide, by decide⟩ dX10_init_9 ?_
  refine h.putF trivial rfl fc_RX10_10 rfl dX10_init_12 ?_
  refine h.aload_n 0 dX10_init_15 rfl ?_
  refine h.newO nw_RX10_16 ⟨by decide, by decide⟩ dX10_init_16 ?_
  refine h.dup dX10_init_19 rfl ?_
  refine h.child (k_X3 (a := a + 1 + 10) (hL.sub (d := 11) (by omega) (by decide +kernel)) (hZ.sub (d := 11) (by omega) (by decide))) lm_X3_init in_X3 ll_RX10_18 (Nat.le_of_ble_eq_true rfl) ⟨by decide, by decide⟩ ⟨by decide, by decide⟩ dX10_init_20 ?_
  refine h.putF trivial rfl fc_RX10_19 (by show Value.ref (M.2.2 0) = _; rw [hd0]) dX10_init_23 ?_
  refine h.aload_n 0 dX10_init_26 rfl ?_
  refine h.newO nw_RX10_23 ⟨by decide, by decide⟩ dX10_init_27 ?_
  refine h.dup dX10_init_30 rfl ?_
  refine h.childN (k_X8 (a := a + 1 + 18) (hL.sub (d := 19) (by omega) (by decide +kernel)) (hZ.sub (d := 19) (by omega) (by decide))) lm_X8_init in_X8 3 rfl (Nat.le_of_ble_eq_true rfl) ⟨by decide, by decide⟩ ⟨by decide, by decide⟩ dX10_init_31 ?_
  refine h.putF trivial rfl fc_RX10_26 rfl dX10_init_34 ?_
  refine h.aload_n 0 dX10_init_37 rfl ?_
  refine h.newO nw_RX10_23 ⟨by decide, by decide⟩ dX10_init_38 ?_
  refine h.dup dX10_init_41 rfl ?_
  refine h.childN (k_X8 (a := a + 1 + 48) (hL.sub (d := 49) (by omega) (by decide +kernel)) (hZ.sub (d := 49) (by omega) (by decide))) lm_X8_init in_X8 3 rfl (Nat.le_of_ble_eq_true rfl) ⟨by decide, by decide⟩ ⟨by decide, by decide⟩ dX10_init_42 ?_
  refine h.putF trivial rfl fc_RX10_30 rfl dX10_init_45 ?_
  refine h.aload_n 0 dX10_init_48 rfl ?_
  refine h.newO nw_RX10_33 ⟨by decide, by decide⟩ dX10_init_49 ?_
  refine h.dup dX10_init_52 rfl ?_
  refine h.childN (k_X2 (a := a + 1 + 78) (hL.sub (d := 79) (by omega) (by decide +kernel)) (hZ.sub (d := 79) (by omega) (by decide))) lm_X2_init in_X2 9 rfl (Nat.le_of_ble_eq_true rfl) ⟨by decide, by decide⟩ ⟨by decide, by decide⟩ dX10_init_53 ?_
  refine h.putF trivial rfl fc_RX10_36 rfl dX10_init_56 ?_
  refine h.aload_n 0 dX10_init_59 rfl ?_
  refine h.getO (v := .ref (a + 19)) lf_RX10_26 (by decide) dX10_init_60 rfl ?_
  refine h.aload_n 0 dX10_init_63 rfl ?_
  refine h.getO (v := .ref (a + 11)) lf_RX10_19 (by decide) dX10_init_64 (by show Value.ref (M.2.2 0) = _; rw [hd0]) ?_
  refine h.done (hL.at (d := 0) rfl (by decide +kernel)) (own_ok (G := G) (hZ.at (d := 0) rfl (by decide) (hL.at (d := 0) rfl (by decide +kernel))) (by decide +kernel)) ?_
  refine h.callV (As := [.ref (a + 11)]) (rest := []) (c_X8_begin hW (hs9 hL (d := 19) (by decide +kernel) (by decide)) (hs9 hL (d := 11) (by decide +kernel) (by decide)) hf) lm_X8_begin lv_m_X8_begin ll_RX10_40 (hs9 hL (d := 19) (by decide +kernel) (by decide)) lc_8 rfl rfl (Nat.le_of_ble_eq_true rfl) ⟨by decide, by decide⟩ ⟨by decide, by decide⟩ dX10_init_67 ?_
  exact hr _ _ _ _ dX10_init_70 fin_id
set_option maxRecDepth 20000 in
theorem k_X11 {G : Ctx} {a : Nat} {M : Mem} (hL : Lb G a (BL 11)) (hZ : Zm G M a 27) : CtI G yX11_init cX11_init 1 1 12 26 72789 11 a M := by
  refine ct_new (by decide +kernel) (by decide) rfl (fun w h hr => ?_)
  have h : Rk G [a] cX11_init RX11 1 1 12 26 72789 (a + 1) True w := h
  refine h.aload_n 0 dX11_init_0 rfl ?_
  refine h.objInit (gin 1411 (by decide +kernel) rfl) ⟨by decide, by decide⟩ dX11_init_1 ?_
  refine h.aload_n 0 dX11_init_4 rfl ?_
  refine h.iconst (v := (4 : Int32)) dX11_init_5 (by decide) ?_
  refine h.newS (n := 4) (gin 1412 (by decide +kernel) rfl) ⟨by decide, by decide⟩ ⟨by decide, by decide, by decide⟩ dX11_init_6 ?_
  refine h.dup dX11_init_9 rfl ?_
  refine h.iconst (v := (0 : Int32)) dX11_init_10 (by decide) ?_
  refine h.ldcS (i := 0) 32 dX11_init_11 rfl ?_
  refine h.sastE (by decide) ⟨by decide, by decide⟩ dX11_init_13 ?_
  refine h.dup dX11_init_14 rfl ?_
  refine h.iconst (v := (1 : Int32)) dX11_init_15 (by decide) ?_
  refine h.ldcS (i := 1) 33 dX11_init_16 rfl ?_
  refine h.sastE (by decide) ⟨by decide, by decide⟩ dX11_init_18 ?_
  refine h.dup dX11_init_19 rfl ?_
  refine h.iconst (v := (2 : Int32)) dX11_init_20 (by decide) ?_
  refine h.ldcS (i := 2) 34 dX11_init_21 rfl ?_
  refine h.sastE (by decide) ⟨by decide, by decide⟩ dX11_init_23 ?_
  refine h.dup dX11_init_24 rfl ?_
  refine h.iconst (v := (3 : Int32)) dX11_init_25 (by decide) ?_
  refine h.ldcS (i := 3) 35 dX11_init_26 rfl ?_
  refine h.sastE (by decide) ⟨by decide, by decide⟩ dX11_init_28 ?_
  refine h.absorb (ab_s (t := 0) (hL.at (d := 1) (by omega) (by decide +kernel)) (fun j hj => match j, hj with | 0, _ => rfl | 1, _ => rfl | 2, _ => rfl | 3, _ => rfl | j + 4, h => absurd h (by omega))) ?_
  refine h.putF trivial rfl fc_RX11_19 rfl dX11_init_29 ?_
  refine h.aload_n 0 dX11_init_32 rfl ?_
  refine h.bipush (v := (9 : Int32)) dX11_init_33 (by decide) ?_
  refine h.newS (n := 9) (gin 1412 (by decide +kernel) rfl) ⟨by decide, by decide⟩ ⟨by decide, by decide, by decide⟩ dX11_init_35 ?_
  refine h.dup dX11_init_38 rfl ?_
  refine h.iconst (v := (0 : Int32)) dX11_init_39 (by decide) ?_
  refine h.ldcS (i := 4) 36 dX11_init_40 rfl ?_
  refine h.sastE (by decide) ⟨by decide, by decide⟩ dX11_init_42 ?_
  refine h.dup dX11_init_43 rfl ?_
  refine h.iconst (v := (1 : Int32)) dX11_init_44 (by decide) ?_
  refine h.ldcS (i := 5) 37 dX11_init_45 rfl ?_
  refine h.sastE (by decide) ⟨by decide, by decide⟩ dX11_init_47 ?_
  refine h.dup dX11_init_48 rfl ?_
  refine h.iconst (v := (2 : Int32)) dX11_init_49 (by decide) ?_
  refine h.ldcS (i := 6) 38 dX11_init_50 rfl ?_
  refine h.sastE (by decide) ⟨by decide, by decide⟩ dX11_init_52 ?_
  refine h.dup dX11_init_53 rfl ?_
  refine h.iconst (v := (3 : Int32)) dX11_init_54 (by decide) ?_
  refine h.ldcS (i := 7) 39 dX11_init_55 rfl ?_
  refine h.sastE (by decide) ⟨by decide, by decide⟩ dX11_init_57 ?_
  refine h.dup dX11_init_58 rfl ?_
  refine h.iconst (v := (4 : Int32)) dX11_init_59 (by decide) ?_
  refine h.ldcS (i := 8) 40 dX11_init_60 rfl ?_
  refine h.sastE (by decide) ⟨by decide, by decide⟩ dX11_init_62 ?_
  refine h.dup dX11_init_63 rfl ?_
  refine h.iconst (v := (5 : Int32)) dX11_init_64 (by decide) ?_
  refine h.ldcS (i := 9) 41 dX11_init_65 rfl ?_
  refine h.sastE (by decide) ⟨by decide, by decide⟩ dX11_init_67 ?_
  refine h.dup dX11_init_68 rfl ?_
  refine h.bipush (v := (6 : Int32)) dX11_init_69 (by decide) ?_
  refine h.ldcS (i := 10) 42 dX11_init_71 rfl ?_
  refine h.sastE (by decide) ⟨by decide, by decide⟩ dX11_init_73 ?_
  refine h.dup dX11_init_74 rfl ?_
  refine h.bipush (v := (7 : Int32)) dX11_init_75 (by decide) ?_
  refine h.ldcS (i := 11) 43 dX11_init_77 rfl ?_
  refine h.sastE (by decide) ⟨by decide, by decide⟩ dX11_init_79 ?_
  refine h.dup dX11_init_80 rfl ?_
  refine h.bipush (v := (8 : Int32)) dX11_init_81 (by decide) ?_
  refine h.ldcS (i := 12) 44 dX11_init_83 rfl ?_
  refine h.sastE (by decide) ⟨by decide, by decide⟩ dX11_init_85 ?_
  refine h.absorb (ab_s (t := 4) (hL.at (d := 2) (by omega) (by decide +kernel)) (fun j hj => match j, hj with | 0, _ => rfl | 1, _ => rfl | 2, _ => rfl | 3, _ => rfl | 4, _ => rfl | 5, _ => rfl | 6, _ => rfl | 7, _ => rfl | 8, _ => rfl | j + 9, h => absurd h (by omega))) ?_
  refine h.putF trivial rfl fc_RX11_41 rfl dX11_init_86 ?_
  refine h.aload_n 0 dX11_init_89 rfl ?_
  refine h.bipush (v := (20 : Int32)) dX11_init_90 (by decide) ?_
  refine h.newI (n := 20) ⟨by decide, by decide⟩ ⟨by decide, by decide, by decide⟩ dX11_init_92 ?_
  refine h.dup dX11_init_94 rfl ?_
  refine h.iconst (v := (0 : Int32)) dX11_init_95 (by decide) ?_
  refine h.iconst (v := (4 : Int32)) dX11_init_96 (by decide) ?_
  refine h.iastE ⟨by decide, by decide⟩ dX11_init_97 ?_
  refine h.dup dX11_init_98 rfl ?_
  refine h.iconst (v := (1 : Int32)) dX11_init_99 (by decide) ?_
  refine h.bipush (v := (12 : Int32)) dX11_init_100 (by decide) ?_
  refine h.iastE ⟨by decide, by decide⟩ dX11_init_102 ?_
  refine h.dup dX11_init_103 rfl ?_
  refine h.iconst (v := (2 : Int32)) dX11_init_104 (by decide) ?_
  refine h.iconst (v := (4 : Int32)) dX11_init_105 (by decide) ?_
  refine h.iastE ⟨by decide, by decide⟩ dX11_init_106 ?_
  refine h.dup dX11_init_107 rfl ?_
  refine h.iconst (v := (3 : Int32)) dX11_init_108 (by decide) ?_
  refine h.iconst (v := (1 : Int32)) dX11_init_109 (by decide) ?_
  refine h.iastE ⟨by decide, by decide⟩ dX11_init_110 ?_
  refine h.dup dX11_init_111 rfl ?_
  refine h.iconst (v := (4 : Int32)) dX11_init_112 (by decide) ?_
  refine h.bipush (v := (8 : Int32)) dX11_init_113 (by decide) ?_
  refine h.iastE ⟨by decide, by decide⟩ dX11_init_115 ?_
  refine h.dup dX11_init_116 rfl ?_
  refine h.iconst (v := (5 : Int32)) dX11_init_117 (by decide) ?_
  refine h.iconst (v := (0 : Int32)) dX11_init_118 (by decide) ?_
  refine h.iastE ⟨by decide, by decide⟩ dX11_init_119 ?_
  refine h.dup dX11_init_120 rfl ?_
  refine h.bipush (v := (6 : Int32)) dX11_init_121 (by decide) ?_
  refine h.iconst (v := (1 : Int32)) dX11_init_123 (by decide) ?_
  refine h.iastE ⟨by decide, by decide⟩ dX11_init_124 ?_
  refine h.dup dX11_init_125 rfl ?_
  refine h.bipush (v := (7 : Int32)) dX11_init_126 (by decide) ?_
  refine h.iconst (v := (1 : Int32)) dX11_init_128 (by decide) ?_
  refine h.iastE ⟨by decide, by decide⟩ dX11_init_129 ?_
  refine h.dup dX11_init_130 rfl ?_
  refine h.bipush (v := (8 : Int32)) dX11_init_131 (by decide) ?_
  refine h.iconst (v := (0 : Int32)) dX11_init_133 (by decide) ?_
  refine h.iastE ⟨by decide, by decide⟩ dX11_init_134 ?_
  refine h.dup dX11_init_135 rfl ?_
  refine h.bipush (v := (9 : Int32)) dX11_init_136 (by decide) ?_
  refine h.iconst (v := (0 : Int32)) dX11_init_138 (by decide) ?_
  refine h.iastE ⟨by decide, by decide⟩ dX11_init_139 ?_
  refine h.dup dX11_init_140 rfl ?_
  refine h.bipush (v := (10 : Int32)) dX11_init_141 (by decide) ?_
  refine h.iconst (v := (0 : Int32)) dX11_init_143 (by decide) ?_
  refine h.iastE ⟨by decide, by decide⟩ dX11_init_144 ?_
  refine h.dup dX11_init_145 rfl ?_
  refine h.bipush (v := (11 : Int32)) dX11_init_146 (by decide) ?_
  refine h.iconst (v := (0 : Int32)) dX11_init_148 (by decide) ?_
  refine h.iastE ⟨by decide, by decide⟩ dX11_init_149 ?_
  refine h.dup dX11_init_150 rfl ?_
  refine h.bipush (v := (12 : Int32)) dX11_init_151 (by decide) ?_
  refine h.iconst (v := (0 : Int32)) dX11_init_153 (by decide) ?_
  refine h.iastE ⟨by decide, by decide⟩ dX11_init_154 ?_
  refine h.dup dX11_init_155 rfl ?_
  refine h.bipush (v := (13 : Int32)) dX11_init_156 (by decide) ?_
  refine h.iconst (v := (0 : Int32)) dX11_init_158 (by decide) ?_
  refine h.iastE ⟨by decide, by decide⟩ dX11_init_159 ?_
  refine h.dup dX11_init_160 rfl ?_
  refine h.bipush (v := (14 : Int32)) dX11_init_161 (by decide) ?_
  refine h.iconst (v := (0 : Int32)) dX11_init_163 (by decide) ?_
  refine h.iastE ⟨by decide, by decide⟩ dX11_init_164 ?_
  refine h.dup dX11_init_165 rfl ?_
  refine h.bipush (v := (15 : Int32)) dX11_init_166 (by decide) ?_
  refine h.iconst (v := (0 : Int32)) dX11_init_168 (by decide) ?_
  refine h.iastE ⟨by decide, by decide⟩ dX11_init_169 ?_
  refine h.dup dX11_init_170 rfl ?_
  refine h.bipush (v := (16 : Int32)) dX11_init_171 (by decide) ?_
  refine h.iconst (v := (0 : Int32)) dX11_init_173 (by decide) ?_
  refine h.iastE ⟨by decide, by decide⟩ dX11_init_174 ?_
  refine h.dup dX11_init_175 rfl ?_
  refine h.bipush (v := (17 : Int32)) dX11_init_176 (by decide) ?_
  refine h.iconst (v := (0 : Int32)) dX11_init_178 (by decide) ?_
  refine h.iastE ⟨by decide, by decide⟩ dX11_init_179 ?_
  refine h.dup dX11_init_180 rfl ?_
  refine h.bipush (v := (18 : Int32)) dX11_init_181 (by decide) ?_
  refine h.iconst (v := (0 : Int32)) dX11_init_183 (by decide) ?_
  refine h.iastE ⟨by decide, by decide⟩ dX11_init_184 ?_
  refine h.dup dX11_init_185 rfl ?_
  refine h.bipush (v := (19 : Int32)) dX11_init_186 (by decide) ?_
  refine h.iconst (v := (0 : Int32)) dX11_init_188 (by decide) ?_
  refine h.iastE ⟨by decide, by decide⟩ dX11_init_189 ?_
  refine h.absorb (ab_i (hL.at (d := 3) (by omega) (by decide +kernel)) (hZ.at (d := 3) (by omega) (by decide) (hL.at (d := 3) (by omega) (by decide +kernel))) (fun j hj => match j, hj with | 0, _ => rfl | 1, _ => rfl | 2, _ => rfl | 3, _ => rfl | 4, _ => rfl | 5, _ => rfl | 6, _ => rfl | 7, _ => rfl | 8, _ => rfl | 9, _ => rfl | 10, _ => rfl | 11, _ => rfl | 12, _ => rfl | 13, _ => rfl | 14, _ => rfl | 15, _ => rfl | 16, _ => rfl | 17, _ => rfl | 18, _ => rfl | 19, _ => rfl | j + 20, h => absurd h (by omega))) ?_
  refine h.putF trivial rfl fc_RX11_44 rfl dX11_init_190 ?_
  refine h.aload_n 0 dX11_init_193 rfl ?_
  refine h.bipush (v := (32 : Int32)) dX11_init_194 (by decide) ?_
  refine h.newI (n := 32) ⟨by decide, by decide⟩ ⟨by decide, by decide, by decide⟩ dX11_init_196 ?_
  refine h.absorb (ab_i (hL.at (d := 4) (by omega) (by decide +kernel)) (hZ.at (d := 4) (by omega) (by decide) (hL.at (d := 4) (by omega) (by decide +kernel))) (fun j _ => by simp [iv])) ?_
  refine h.putF trivial rfl fc_RX11_48 rfl dX11_init_198 ?_
  refine h.aload_n 0 dX11_init_201 rfl ?_
  refine h.sipush (v := (1400 : Int32)) dX11_init_202 (by decide) ?_
  refine h.newI (n := 1400) ⟨by decide, by decide⟩ ⟨by decide, by decide, by decide⟩ dX11_init_205 ?_
  refine h.absorb (ab_i (hL.at (d := 5) (by omega) (by decide +kernel)) (hZ.at (d := 5) (by omega) (by decide) (hL.at (d := 5) (by omega) (by decide +kernel))) (fun j _ => by simp [iv])) ?_
  refine h.putF trivial rfl fc_RX11_50 rfl dX11_init_207 ?_
  refine h.aload_n 0 dX11_init_210 rfl ?_
  refine h.sipush (v := (1400 : Int32)) dX11_init_211 (by decide) ?_
  refine h.newI (n := 1400) ⟨by decide, by decide⟩ ⟨by decide, by decide, by decide⟩ dX11_init_214 ?_
  refine h.absorb (ab_i (hL.at (d := 6) (by omega) (by decide +kernel)) (hZ.at (d := 6) (by omega) (by decide) (hL.at (d := 6) (by omega) (by decide +kernel))) (fun j _ => by simp [iv])) ?_
  refine h.putF trivial rfl fc_RX11_53 rfl dX11_init_216 ?_
  refine h.aload_n 0 dX11_init_219 rfl ?_
  refine h.iconst (v := (3 : Int32)) dX11_init_220 (by decide) ?_
  refine h.newI (n := 3) ⟨by decide, by decide⟩ ⟨by decide, by decide, by decide⟩ dX11_init_221 ?_
  refine h.absorb (ab_i (hL.at (d := 7) (by omega) (by decide +kernel)) (hZ.at (d := 7) (by omega) (by decide) (hL.at (d := 7) (by omega) (by decide +kernel))) (fun j _ => by simp [iv])) ?_
  refine h.putF trivial rfl fc_RX11_56 rfl dX11_init_223 ?_
  refine h.aload_n 0 dX11_init_226 rfl ?_
  refine h.sipush (v := (665 : Int32)) dX11_init_227 (by decide) ?_
  refine h.newI (n := 665) ⟨by decide, by decide⟩ ⟨by decide, by decide, by decide⟩ dX11_init_230 ?_
  refine h.absorb (ab_i (hL.at (d := 8) (by omega) (by decide +kernel)) (hZ.at (d := 8) (by omega) (by decide) (hL.at (d := 8) (by omega) (by decide +kernel))) (fun j _ => by simp [iv])) ?_
  refine h.putF trivial rfl fc_RX11_59 rfl dX11_init_232 ?_
  refine h.aload_n 0 dX11_init_235 rfl ?_
  refine h.sipush (v := (700 : Int32)) dX11_init_236 (by decide) ?_
  refine h.newI (n := 700) ⟨by decide, by decide⟩ ⟨by decide, by decide, by decide⟩ dX11_init_239 ?_
  refine h.absorb (ab_i (hL.at (d := 9) (by omega) (by decide +kernel)) (hZ.at (d := 9) (by omega) (by decide) (hL.at (d := 9) (by omega) (by decide +kernel))) (fun j _ => by simp [iv])) ?_
  refine h.putF trivial rfl fc_RX11_62 rfl dX11_init_241 ?_
  refine h.aload_n 0 dX11_init_244 rfl ?_
  refine h.iconst (v := (-1 : Int32)) dX11_init_245 (by decide) ?_
  refine h.putF trivial rfl fc_RX11_65 (by show Value.int _ = _; rw [(hZ.at (q := a) (d := 0) (t := (0, 11)) rfl (by decide) (hL.at (q := a) (d := 0) rfl (by decide +kernel))).1]; rfl) dX11_init_246 ?_
  refine h.aload_n 0 dX11_init_249 rfl ?_
  refine h.iconst (v := (4 : Int32)) dX11_init_250 (by decide) ?_
  refine h.newI (n := 4) ⟨by decide, by decide⟩ ⟨by decide, by decide, by decide⟩ dX11_init_251 ?_
  refine h.absorb (ab_i (hL.at (d := 10) (by omega) (by decide +kernel)) (hZ.at (d := 10) (by omega) (by decide) (hL.at (d := 10) (by omega) (by decide +kernel))) (fun j _ => by simp [iv])) ?_
  refine h.putF trivial rfl fc_RX11_69 rfl dX11_init_253 ?_
  refine h.aload_n 0 dX11_init_256 rfl ?_
  refine h.bipush (v := (64 : Int32)) dX11_init_257 (by decide) ?_
  refine h.newI (n := 64) ⟨by decide, by decide⟩ ⟨by decide, by decide, by decide⟩ dX11_init_259 ?_
  refine h.absorb (ab_i (hL.at (d := 11) (by omega) (by decide +kernel)) (hZ.at (d := 11) (by omega) (by decide) (hL.at (d := 11) (by omega) (by decide +kernel))) (fun j _ => by simp [iv])) ?_
  refine h.putF trivial rfl fc_RX11_72 rfl dX11_init_261 ?_
  refine h.aload_n 0 dX11_init_264 rfl ?_
  refine h.sipush (v := (8192 : Int32)) dX11_init_265 (by decide) ?_
  refine h.newI (n := 8192) ⟨by decide, by decide⟩ ⟨by decide, by decide, by decide⟩ dX11_init_268 ?_
  refine h.absorb (ab_i (hL.at (d := 12) (by omega) (by decide +kernel)) (hZ.at (d := 12) (by omega) (by decide) (hL.at (d := 12) (by omega) (by decide +kernel))) (fun j _ => by simp [iv])) ?_
  refine h.putF trivial rfl fc_RX11_75 rfl dX11_init_270 ?_
  refine h.aload_n 0 dX11_init_273 rfl ?_
  refine h.sipush (v := (2048 : Int32)) dX11_init_274 (by decide) ?_
  refine h.newI (n := 2048) ⟨by decide, by decide⟩ ⟨by decide, by decide, by decide⟩ dX11_init_277 ?_
  refine h.absorb (ab_i (hL.at (d := 13) (by omega) (by decide +kernel)) (hZ.at (d := 13) (by omega) (by decide) (hL.at (d := 13) (by omega) (by decide +kernel))) (fun j _ => by simp [iv])) ?_
  refine h.putF trivial rfl fc_RX11_78 rfl dX11_init_279 ?_
  refine h.aload_n 0 dX11_init_282 rfl ?_
  refine h.sipush (v := (2048 : Int32)) dX11_init_283 (by decide) ?_
  refine h.newZ (n := 2048) ⟨by decide, by decide⟩ ⟨by decide, by decide, by decide⟩ dX11_init_286 ?_
  refine h.absorb (ab_z (hL.at (d := 14) (by omega) (by decide +kernel)) (hZ.at (d := 14) (by omega) (by decide) (hL.at (d := 14) (by omega) (by decide +kernel))) (fun j _ => by simp [iv])) ?_
  refine h.putF trivial rfl fc_RX11_81 rfl dX11_init_288 ?_
  refine h.aload_n 0 dX11_init_291 rfl ?_
  refine h.sipush (v := (26600 : Int32)) dX11_init_292 (by decide) ?_
  refine h.newI (n := 26600) ⟨by decide, by decide⟩ ⟨by decide, by decide, by decide⟩ dX11_init_295 ?_
  refine h.absorb (ab_i (hL.at (d := 15) (by omega) (by decide +kernel)) (hZ.at (d := 15) (by omega) (by decide) (hL.at (d := 15) (by omega) (by decide +kernel))) (fun j _ => by simp [iv])) ?_
  refine h.putF trivial rfl fc_RX11_85 rfl dX11_init_297 ?_
  refine h.aload_n 0 dX11_init_300 rfl ?_
  refine h.sipush (v := (665 : Int32)) dX11_init_301 (by decide) ?_
  refine h.newI (n := 665) ⟨by decide, by decide⟩ ⟨by decide, by decide, by decide⟩ dX11_init_304 ?_
  refine h.absorb (ab_i (hL.at (d := 16) (by omega) (by decide +kernel)) (hZ.at (d := 16) (by omega) (by decide) (hL.at (d := 16) (by omega) (by decide +kernel))) (fun j _ => by simp [iv])) ?_
  refine h.putF trivial rfl fc_RX11_88 rfl dX11_init_306 ?_
  refine h.aload_n 0 dX11_init_309 rfl ?_
  refine h.sipush (v := (441 : Int32)) dX11_init_310 (by decide) ?_
  refine h.newI (n := 441) ⟨by decide, by decide⟩ ⟨by decide, by decide, by decide⟩ dX11_init_313 ?_
  refine h.absorb (ab_i (hL.at (d := 17) (by omega) (by decide +kernel)) (hZ.at (d := 17) (by omega) (by decide) (hL.at (d := 17) (by omega) (by decide +kernel))) (fun j _ => by simp [iv])) ?_
  refine h.putF trivial rfl fc_RX11_91 rfl dX11_init_315 ?_
  refine h.aload_n 0 dX11_init_318 rfl ?_
  refine h.bipush (v := (8 : Int32)) dX11_init_319 (by decide) ?_
  refine h.newI (n := 8) ⟨by decide, by decide⟩ ⟨by decide, by decide, by decide⟩ dX11_init_321 ?_
  refine h.absorb (ab_i (hL.at (d := 18) (by omega) (by decide +kernel)) (hZ.at (d := 18) (by omega) (by decide) (hL.at (d := 18) (by omega) (by decide +kernel))) (fun j _ => by simp [iv])) ?_
  refine h.putF trivial rfl fc_RX11_94 rfl dX11_init_323 ?_
  refine h.aload_n 0 dX11_init_326 rfl ?_
  refine h.bipush (v := (8 : Int32)) dX11_init_327 (by decide) ?_
  refine h.newI (n := 8) ⟨by decide, by decide⟩ ⟨by decide, by decide, by decide⟩ dX11_init_329 ?_
  refine h.absorb (ab_i (hL.at (d := 19) (by omega) (by decide +kernel)) (hZ.at (d := 19) (by omega) (by decide) (hL.at (d := 19) (by omega) (by decide +kernel))) (fun j _ => by simp [iv])) ?_
  refine h.putF trivial rfl fc_RX11_97 rfl dX11_init_331 ?_
  refine h.aload_n 0 dX11_init_334 rfl ?_
  refine h.sipush (v := (199 : Int32)) dX11_init_335 (by decide) ?_
  refine h.newI (n := 199) ⟨by decide, by decide⟩ ⟨by decide, by decide, by decide⟩ dX11_init_338 ?_
  refine h.absorb (ab_i (hL.at (d := 20) (by omega) (by decide +kernel)) (hZ.at (d := 20) (by omega) (by decide) (hL.at (d := 20) (by omega) (by decide +kernel))) (fun j _ => by simp [iv])) ?_
  refine h.putF trivial rfl fc_RX11_100 rfl dX11_init_340 ?_
  refine h.aload_n 0 dX11_init_343 rfl ?_
  refine h.sipush (v := (995 : Int32)) dX11_init_344 (by decide) ?_
  refine h.newI (n := 995) ⟨by decide, by decide⟩ ⟨by decide, by decide, by decide⟩ dX11_init_347 ?_
  refine h.absorb (ab_i (hL.at (d := 21) (by omega) (by decide +kernel)) (hZ.at (d := 21) (by omega) (by decide) (hL.at (d := 21) (by omega) (by decide +kernel))) (fun j _ => by simp [iv])) ?_
  refine h.putF trivial rfl fc_RX11_103 rfl dX11_init_349 ?_
  refine h.aload_n 0 dX11_init_352 rfl ?_
  refine h.sipush (v := (665 : Int32)) dX11_init_353 (by decide) ?_
  refine h.newI (n := 665) ⟨by decide, by decide⟩ ⟨by decide, by decide, by decide⟩ dX11_init_356 ?_
  refine h.absorb (ab_i (hL.at (d := 22) (by omega) (by decide +kernel)) (hZ.at (d := 22) (by omega) (by decide) (hL.at (d := 22) (by omega) (by decide +kernel))) (fun j _ => by simp [iv])) ?_
  refine h.putF trivial rfl fc_RX11_106 rfl dX11_init_358 ?_
  refine h.aload_n 0 dX11_init_361 rfl ?_
  refine h.sipush (v := (26600 : Int32)) dX11_init_362 (by decide) ?_
  refine h.newI (n := 26600) ⟨by decide, by decide⟩ ⟨by decide, by decide, by decide⟩ dX11_init_365 ?_
  refine h.absorb (ab_i (hL.at (d := 23) (by omega) (by decide +kernel)) (hZ.at (d := 23) (by omega) (by decide) (hL.at (d := 23) (by omega) (by decide +kernel))) (fun j _ => by simp [iv])) ?_
  refine h.putF trivial rfl fc_RX11_109 rfl dX11_init_367 ?_
  refine h.aload_n 0 dX11_init_370 rfl ?_
  refine h.bipush (v := (8 : Int32)) dX11_init_371 (by decide) ?_
  refine h.newI (n := 8) ⟨by decide, by decide⟩ ⟨by decide, by decide, by decide⟩ dX11_init_373 ?_
  refine h.absorb (ab_i (hL.at (d := 24) (by omega) (by decide +kernel)) (hZ.at (d := 24) (by omega) (by decide) (hL.at (d := 24) (by omega) (by decide +kernel))) (fun j _ => by simp [iv])) ?_
  refine h.putF trivial rfl fc_RX11_112 rfl dX11_init_375 ?_
  refine h.aload_n 0 dX11_init_378 rfl ?_
  refine h.bipush (v := (8 : Int32)) dX11_init_379 (by decide) ?_
  refine h.newI (n := 8) ⟨by decide, by decide⟩ ⟨by decide, by decide, by decide⟩ dX11_init_381 ?_
  refine h.absorb (ab_i (hL.at (d := 25) (by omega) (by decide +kernel)) (hZ.at (d := 25) (by omega) (by decide) (hL.at (d := 25) (by omega) (by decide +kernel))) (fun j _ => by simp [iv])) ?_
  refine h.putF trivial rfl fc_RX11_115 rfl dX11_init_383 ?_
  refine h.aload_n 0 dX11_init_386 rfl ?_
  refine h.iconst (v := (3 : Int32)) dX11_init_387 (by decide) ?_
  refine h.newI (n := 3) ⟨by decide, by decide⟩ ⟨by decide, by decide, by decide⟩ dX11_init_388 ?_
  refine h.absorb (ab_i (hL.at (d := 26) (by omega) (by decide +kernel)) (hZ.at (d := 26) (by omega) (by decide) (hL.at (d := 26) (by omega) (by decide +kernel))) (fun j _ => by simp [iv])) ?_
  refine h.putF trivial rfl fc_RX11_118 rfl dX11_init_390 ?_
  refine h.done (hL.at (d := 0) rfl (by decide +kernel)) (own_ok (G := G) (hZ.at (d := 0) rfl (by decide) (hL.at (d := 0) rfl (by decide +kernel))) (by decide +kernel)) ?_
  exact hr _ _ _ _ dX11_init_393 fin_id
