def playC (M : Mem) (r : Nat) (c : CW) : CW :=
  let z := M.1 r 0
  let c1 := uc c 5 5 (c 5 5 - 1000)
  let u := hereC z c1
  let c2 := if u = -1 then hearC (if c 5 2 = 1 then 126 else lateC (if c 5 2 = 0 then 0 else M.1 r 6 - 1) c1) 1 c1 else (let c2 := hearC (octL M r u) 0 c1
    uc c2 9 2 (c2 9 2 + (if octL M r u = octL M r (dueC z c2) then 0 else 1)))
  let c3 := uc c2 6 0 (c2 6 0 + 1)
  if c3 9 3 < 64 then c3 else empC (uc (uc c3 5 0 0) 5 9 (c3 5 9 + 1))
theorem e_play {M : Mem} {w r : Nat} {c : CW} (ho : Ow w r 8) : f_X5_playOctet (w + 5) r (setW M w c) = some ((), setW M w (playC M r c)) := by
  simp only [f_X5_playOctet, nm, bd, jn1, jn2, rd_O0 ho (show 0 < 8 by decide), rd_W, wi_W, Nat.reduceLT, Nat.add_assoc, Nat.reduceAdd, e_here, e_latest, e_hear, e_oct ho, e_due, e_empty, playC]
  by_cases h1 : hereC (M.1 r 0) (uc c 5 5 (c 5 5 - 1000)) = -1
  · simp only [if_pos h1]
    have e2 : uc c 5 5 (c 5 5 - 1000) 5 2 = c 5 2 := by simp [uc]
    simp only [e2]
    by_cases h2 : c 5 2 = 0
    · have h3 : ¬ (0 : Int32) = 1 := by decide
      simp only [h2, if_true, if_neg h3]
      generalize hearC (lateC 0 (uc c 5 5 (c 5 5 - 1000))) 1 (uc c 5 5 (c 5 5 - 1000)) = c2
      by_cases h4 : uc c2 6 0 (c2 6 0 + 1) 9 3 < 64
      · simp only [if_pos h4]
      · simp only [if_neg h4]
        simp [uc]
    · by_cases h3 : c 5 2 = 1
      · simp only [if_neg h2, if_pos h3]
        generalize hearC 126 1 (uc c 5 5 (c 5 5 - 1000)) = c2
        by_cases h4 : uc c2 6 0 (c2 6 0 + 1) 9 3 < 64
        · simp only [if_pos h4]
        · simp only [if_neg h4]
          simp [uc]
      · simp only [if_neg h2, if_neg h3]
        generalize hearC (lateC (M.1 r 6 - 1) (uc c 5 5 (c 5 5 - 1000))) 1 (uc c 5 5 (c 5 5 - 1000)) = c2
        by_cases h4 : uc c2 6 0 (c2 6 0 + 1) 9 3 < 64
        · simp only [if_pos h4]
        · simp only [if_neg h4]
          simp [uc]
  · simp only [if_neg h1]
    generalize hearC (octL M r (hereC (M.1 r 0) (uc c 5 5 (c 5 5 - 1000)))) 0 (uc c 5 5 (c 5 5 - 1000)) = c2
    by_cases h2 : octL M r (hereC (M.1 r 0) (uc c 5 5 (c 5 5 - 1000))) = octL M r (dueC (M.1 r 0) c2)
    · simp only [if_pos h2]
      generalize uc c2 9 2 (c2 9 2 + 0) = c3
      by_cases h4 : uc c3 6 0 (c3 6 0 + 1) 9 3 < 64
      · simp only [if_pos h4]
      · simp only [if_neg h4]
        simp [uc]
    · simp only [if_neg h2]
      generalize uc c2 9 2 (c2 9 2 + 1) = c3
      by_cases h4 : uc c3 6 0 (c3 6 0 + 1) 9 3 < 64
      · simp only [if_pos h4]
      · simp only [if_neg h4]
        simp [uc]
def movC (a b : Int32) (c : CW) : CW :=
  let c1 := cput c 2 40 b (cget c 2 40 a)
  let c2 := cput c1 3 40 b (cget c1 3 40 a)
  cput c2 4 40 b (cget c2 4 40 a)
theorem e_move {M : Mem} {w : Nat} {c : CW} {a b : Int32} : f_X1_moveFlying (w + 1) a b (setW M w c) = some ((), setW M w (movC a b c)) := by
  simp only [f_X1_moveFlying, bd, e_at _ (show 40 < 2 ^ 31 by decide), e_put _ (show 40 < 2 ^ 31 by decide), Nat.reduceLT, Nat.add_assoc, Nat.reduceAdd, aget_W, aput_W, movC]
/-- a packet comes out of the flight's place i -/
def comC (z i : Int32) (c : CW) : CW :=
  let c1 := if c 5 0 = 0 then startC (cget c 2 40 i) (cget c 4 40 i) z (uc c 5 0 1) else c
  takeC (cget c1 2 40 i) (cget c1 4 40 i) z c1
def rcvC (z : Int32) : Nat → Nat → Nat → CW → CW
  | 0, k, _, c => uc c 1 8 (Int32.ofNat k)
  | n + 1, k, i, c => if cget c 3 40 (Int32.ofNat i) ≤ c 0 0 then rcvC z n k (i + 1) (comC z (Int32.ofNat i) c) else rcvC z n (k + 1) (i + 1) (movC (Int32.ofNat i) (Int32.ofNat k) c)
theorem cput_row {c : CW} {d n : Nat} {i v : Int32} {d' k : Nat} (h : ¬ d' = d) : cput c d n i v d' k = c d' k := cput_o h
theorem take_o {a b z : Int32} {c : CW} {d k : Nat} (h : d ≤ 5) : takeC a b z c d k = c d k := by
  have h6 : ¬ d = 6 := by omega
  have h7 : ¬ d = 7 := by omega
  have h8 : ¬ d = 8 := by omega
  simp only [takeC]
  split
  · split
    · split <;> simp [uc, cput_o, h6, h7, h8]
    · simp [uc, h6]
  · simp [uc, h6]
theorem com_o {z i : Int32} {c : CW} {d k : Nat} (h : d ≤ 4) : comC z i c d k = c d k := by
  have h6 : ¬ d = 6 := by omega
  have h5 : ¬ d = 5 := by omega
  simp only [comC]
  rw [take_o (by omega)]
  split
  · simp [startC, uc, h6, h5]
  · rfl
theorem mov_o {a b : Int32} {c : CW} {d k : Nat} (h : d ≤ 1) : movC a b c d k = c d k := by
  simp only [movC]
  rw [cput_o (by omega), cput_o (by omega), cput_o (by omega)]
theorem e_rcv {M : Mem} {w : Nat} {z : Int32} : ∀ (n k i : Nat) (c : CW), c 1 8 = Int32.ofNat (i + n) → i + n < 1000 → k ≤ i → ∀ fu, n < fu → lop3 fu (l_X9_receiveDue_4 w z) (Int32.ofNat k) (Int32.ofNat i) (setW M w c) = some ((), setW M w (rcvC z n k i c)) := by
  intro n
  induction n with
  | zero =>
    intro k i c hc hi hk fu hf
    obtain ⟨fu, rfl⟩ : ∃ q, fu = q + 1 := ⟨fu - 1, by omega⟩
    simp only [lop3, l_X9_receiveDue_4, nm, rd_W, wi_W, Nat.reduceLT, hc]
    rw [if_pos ((i_le (by omega) (by omega)).mpr (by omega))]
    rfl
  | succ n ih =>
    intro k i c hc hi hk fu hf
    obtain ⟨fu, rfl⟩ : ∃ q, fu = q + 1 := ⟨fu - 1, by omega⟩
    have hn : ¬ Int32.ofNat (i + (n + 1)) ≤ Int32.ofNat i := fun h => by
      have := (i_le (by omega) (by omega)).mp h
      omega
    simp only [lop3, l_X9_receiveDue_4, nm, bd, jn1, jn2, rd_W, rd_W0, wi_W, Nat.reduceLT, hc, if_neg hn, Nat.add_assoc, Nat.reduceAdd, e_at _ (show 40 < 2 ^ 31 by decide), aget_W, e_start, e_take, e_move, i_add1 (show i + 1 < 2 ^ 31 by omega), i_add1 (show k + 1 < 2 ^ 31 by omega), rcvC]
    by_cases h1 : cget c 3 40 (Int32.ofNat i) ≤ c 0 0
    · simp only [if_pos h1, comC]
      by_cases h2 : c 5 0 = 0
      · simp only [if_pos h2]
        have := ih k (i + 1) (comC z (Int32.ofNat i) c) (by rw [com_o (by decide), hc]; congr 1; omega) (by omega) (by omega) fu (by omega)
        simp only [comC, if_pos h2] at this
        exact this
      · simp only [if_neg h2]
        have := ih k (i + 1) (comC z (Int32.ofNat i) c) (by rw [com_o (by decide), hc]; congr 1; omega) (by omega) (by omega) fu (by omega)
        simp only [comC, if_neg h2] at this
        exact this
    · simp only [if_neg h1]
      exact ih (k + 1) (i + 1) _ (by rw [mov_o (by decide), hc]; congr 1; omega) (by omega) (by omega) fu (by omega)
