/-! A world of the class, as rows: delta and slot to int; the memory around it. -/
abbrev CW : Type := Nat → Nat → Int32
def setW (M : Mem) (w : Nat) (c : CW) : Mem := (fun b j => if w ≤ b ∧ b < w + 12 then c (b - w) j else M.1 b j, M.2)
def getW (M : Mem) (w : Nat) : CW := fun d j => M.1 (w + d) j
def uc (c : CW) (d k : Nat) (v : Int32) : CW := fun d' j => if d' = d ∧ j = k then v else c d' j
def ucf (c : CW) (d n : Nat) (v : Int32) : CW := fun d' j => if d' = d ∧ j < n then v else c d' j
def cget (c : CW) (d n : Nat) (i : Int32) : Int32 := if i < 0 then 0 else if Int32.ofNat n ≤ i then 0 else c d i.toNatClampNeg
def cput (c : CW) (d n : Nat) (i v : Int32) : CW := if i < 0 then c else if Int32.ofNat n ≤ i then c else uc c d i.toNatClampNeg v
theorem set_get {M : Mem} {w : Nat} : setW M w (getW M w) = M := by
  refine Mem.ext' (fun b j => ?_) rfl
  simp only [setW, getW]
  by_cases h : w ≤ b ∧ b < w + 12
  · rw [if_pos h, show w + (b - w) = b by omega]
  · rw [if_neg h]
theorem rd_W {M : Mem} {w d k : Nat} {c : CW} (hd : d < 12) : (setW M w c).1 (w + d) k = c d k := by
  simp only [setW]
  rw [if_pos ⟨by omega, by omega⟩, Nat.add_sub_cancel_left]
theorem rd_W0 {M : Mem} {w k : Nat} {c : CW} : (setW M w c).1 w k = c 0 k := rd_W (d := 0) (by decide)
theorem rd_Wo {M : Mem} {w b k : Nat} {c : CW} (h : ¬ (w ≤ b ∧ b < w + 12)) : (setW M w c).1 b k = M.1 b k := by
  simp only [setW]
  rw [if_neg h]
theorem wi_W {M : Mem} {w d k : Nat} {c : CW} {v : Int32} (hd : d < 12) : wi (setW M w c) (w + d) k v = setW M w (uc c d k v) := by
  refine Mem.ext' (fun b j => ?_) rfl
  simp only [setW, wi, uc]
  by_cases h : w ≤ b ∧ b < w + 12
  · by_cases h2 : b = w + d
    · subst h2
      simp only [Nat.add_sub_cancel_left]
      by_cases h3 : j = k <;> simp [h3, h]
    · have h3 : ¬ b - w = d := by omega
      simp [h, h2, h3]
  · have h2 : ¬ b = w + d := by omega
    simp [h, h2]
theorem wi_W0 {M : Mem} {w k : Nat} {c : CW} {v : Int32} : wi (setW M w c) w k v = setW M w (uc c 0 k v) := wi_W (d := 0) (by decide)
theorem aput_W {M : Mem} {w d n : Nat} {c : CW} {i v : Int32} (hd : d < 12) : aput (setW M w c) (w + d) n i v = setW M w (cput c d n i v) := by
  unfold aput cput
  by_cases h1 : i < 0
  · simp [h1]
  · by_cases h2 : Int32.ofNat n ≤ i
    · simp [h1, h2]
    · simp [h1, h2, wi_W hd]
theorem aget_W {M : Mem} {w d n : Nat} {c : CW} {i : Int32} (hd : d < 12) : aget (setW M w c) (w + d) n i = cget c d n i := by
  unfold aget cget
  by_cases h1 : i < 0
  · simp [h1]
  · by_cases h2 : Int32.ofNat n ≤ i
    · simp [h1, h2]
    · simp [h1, h2, rd_W hd]
theorem afil_W {M : Mem} {w d n : Nat} {c : CW} {v : Int32} (hd : d < 12) : afil (setW M w c) (w + d) n v = setW M w (ucf c d n v) := by
  refine Mem.ext' (fun b j => ?_) rfl
  simp only [setW, afil, ucf]
  by_cases h : w ≤ b ∧ b < w + 12
  · by_cases h2 : b = w + d
    · subst h2
      simp only [Nat.add_sub_cancel_left]
      by_cases h3 : j < n <;> simp [h3, h]
    · have h3 : ¬ b - w = d := by omega
      simp [h, h2, h3]
  · have h2 : ¬ b = w + d := by omega
    simp [h, h2]
def empC (c : CW) : CW := ucf (uc c 6 7 (-1)) 7 64 (-1)
theorem e_empty {M : Mem} {w : Nat} {c : CW} : f_X0_empty (w + 6) (setW M w c) = some ((), setW M w (empC c)) := by
  simp only [f_X0_empty, nm, bd, e_fill _ (show 64 < 100000 by decide), wi_W (show 6 < 12 by decide), Nat.add_assoc, Nat.reduceAdd, afil_W (show 7 < 12 by decide), empC]
def startC (a b z : Int32) (c : CW) : CW := uc (uc (uc (uc (uc (uc (uc c 6 6 (imod a 64)) 6 4 a) 6 5 (z * imod a 64)) 6 0 (z * imod a 64)) 6 7 (imod a 64)) 6 8 b) 6 3 0
theorem e_start {M : Mem} {w : Nat} {c : CW} {a b z : Int32} : f_X0_startAt (w + 6) a b z (setW M w c) = some ((), setW M w (startC a b z c)) := by
  simp only [f_X0_startAt, nm, bd, e_mod, wi_W, rd_W, Nat.reduceLT]
  simp [startC, uc]
def takeC (a b z : Int32) (c : CW) : CW :=
  let sp := iby (c 6 0) z
  let y := imod a 64
  let ah := imod (y - sp) 64
  if ah < 32 then
    if ah ≤ 15 then
      let c1 := cput (cput c 7 64 y (sp + ah)) 8 64 y a
      if sp + ah ≤ c 6 7 then c1 else uc (uc (uc c1 6 3 (c 6 3 + imod (b - c 6 8) 256)) 6 7 (sp + ah)) 6 8 b
    else uc c 6 2 (c 6 2 + 1)
  else uc c 6 1 (c 6 1 + 1)
theorem cput_o {c : CW} {d n d' k : Nat} {i v : Int32} (h : ¬ d' = d) : cput c d n i v d' k = c d' k := by
  unfold cput uc
  by_cases h1 : i < 0
  · simp [h1]
  · by_cases h2 : Int32.ofNat n ≤ i
    · simp [h1, h2]
    · simp [h1, h2, h]
theorem e_take {M : Mem} {w : Nat} {c : CW} {a b z : Int32} : f_X0_take (w + 6) a b z (setW M w c) = some ((), setW M w (takeC a b z c)) := by
  simp only [f_X0_take, nm, bd, jn1, e_mod, e_by, e_put _ (show 64 < 2 ^ 31 by decide), wi_W, rd_W, Nat.reduceLT, Nat.add_assoc, Nat.reduceAdd, aput_W, takeC]
  by_cases h1 : imod (imod a 64 - iby (c 6 0) z) 64 < 32
  · by_cases h2 : imod (imod a 64 - iby (c 6 0) z) 64 ≤ 15
    · simp only [if_pos h1, if_pos h2, cput_o (show ¬ 6 = 8 by decide), cput_o (show ¬ 6 = 7 by decide), uc]
      by_cases h3 : iby (c 6 0) z + imod (imod a 64 - iby (c 6 0) z) 64 ≤ c 6 7
      · simp only [if_pos h3]
      · simp only [if_neg h3]
    · simp only [if_pos h1, if_neg h2]
  · simp only [if_neg h1]
def levC (z : Int32) (c : CW) : Int32 := imax 0 ((c 6 7 + 1) * z - c 6 0)
theorem e_level {M : Mem} {w : Nat} {c : CW} {z : Int32} : f_X0_level (w + 6) z (setW M w c) = some (levC z c, setW M w c) := by
  simp only [f_X0_level, bd, e_max, rd_W, Nat.reduceLT, levC]
def waitC (a z : Int32) (c : CW) : Int32 := if cget c 7 64 a = -1 then -1 else if cget c 7 64 a < iby (c 6 0) z then -1 else cget c 8 64 a
theorem e_waiting {M : Mem} {w : Nat} {c : CW} {a z : Int32} : f_X0_waiting (w + 6) a z (setW M w c) = some (waitC a z c, setW M w c) := by
  simp only [f_X0_waiting, bd, jn1, jn2, e_at _ (show 64 < 2 ^ 31 by decide), e_by, rd_W, Nat.reduceLT, Nat.add_assoc, Nat.reduceAdd, aget_W, waitC]
  by_cases h1 : cget c 7 64 a = -1
  · simp only [if_pos h1]
  · by_cases h2 : cget c 7 64 a < iby (c 6 0) z
    · simp only [if_neg h1, if_pos h2]
    · simp only [if_neg h1, if_neg h2]
def hereC (z : Int32) (c : CW) : Int32 := if cget c 7 64 (imod (iby (c 6 0) z) 64) = iby (c 6 0) z then cget c 8 64 (imod (iby (c 6 0) z) 64) * z + imod (c 6 0) z else -1
theorem e_here {M : Mem} {w : Nat} {c : CW} {z : Int32} : f_X0_indexHere (w + 6) z (setW M w c) = some (hereC z c, setW M w c) := by
  simp only [f_X0_indexHere, bd, jn2, e_at _ (show 64 < 2 ^ 31 by decide), e_by, e_mod, rd_W, Nat.reduceLT, Nat.add_assoc, Nat.reduceAdd, aget_W, hereC]
  by_cases h1 : cget c 7 64 (imod (iby (c 6 0) z) 64) = iby (c 6 0) z
  · simp only [if_pos h1]
  · simp only [if_neg h1]
def dueC (z : Int32) (c : CW) : Int32 := c 6 4 * z + c 6 0 - c 6 5
theorem e_due {M : Mem} {w : Nat} {c : CW} {z : Int32} : f_X0_indexDue (w + 6) z (setW M w c) = some (dueC z c, setW M w c) := by
  simp only [f_X0_indexDue, rd_W, Nat.reduceLT, dueC]
def clkC (c : CW) : CW := uc c 1 1 (c 1 1 + (1000 + c 1 0))
theorem e_clk {M : Mem} {w : Nat} {c : CW} : f_X1_runClock (w + 1) (setW M w c) = some ((), setW M w (clkC c)) := by
  simp only [f_X1_runClock, nm, wi_W, rd_W, Nat.reduceLT, clkC]
theorem e_fdue {M : Mem} {w : Nat} {c : CW} : f_X1_isOctetDue (w + 1) (setW M w c) = some (if c 1 1 < 1000 then 0 else 1, setW M w c) := by
  simp only [f_X1_isOctetDue, jn1, gdp, rd_W, Nat.reduceLT]
  by_cases h : c 1 1 < 1000 <;> simp [h]
def lostC (f : Int32) (c : CW) : Int32 × CW :=
  let fin := fun c1 : CW => ((if f = 0 then (if c1 1 8 < 40 then 0 else 1) else 1 : Int32), c1)
  if c 1 12 ≤ 0 then (if c 1 6 ≤ 0 then fin c else (1, uc c 1 6 (c 1 6 - 1)))
  else
    let c1 := uc (uc c 1 12 (c 1 12 - 1)) 1 13 (c 1 13 >>> (1 &&& 31))
    if c 1 13 &&& 1 = 0 then fin c1 else (1, c1)
theorem e_lost {M : Mem} {w : Nat} {c : CW} {f : Int32} : f_X1_isLost (w + 1) f (setW M w c) = some ((lostC f c).1, setW M w (lostC f c).2) := by
  simp only [f_X1_isLost, nm, bd, jn0, jn1, gdp, wi_W, rd_W, Nat.reduceLT, lostC]
  by_cases h1 : c 1 12 ≤ 0
  · by_cases h2 : c 1 6 ≤ 0
    · by_cases h3 : f = 0
      · by_cases h4 : c 1 8 < 40 <;> simp [h1, h2, h3, h4]
      · simp [h1, h2, h3]
    · simp [h1, h2]
  · by_cases h2 : c 1 13 &&& 1 = 0
    · by_cases h3 : f = 0
      · by_cases h4 : c 1 8 < 40 <;> simp [h1, h2, h3, h4, uc]
      · simp [h1, h2, h3, uc]
    · simp [h1, h2, uc]
theorem e_okept {M : Mem} {w : Nat} {c : CW} : f_X4_octetsKept (w + 9) (setW M w c) = some (imin (c 9 0) 128, setW M w c) := by
  simp only [f_X4_octetsKept, bd, e_min, rd_W, Nat.reduceLT]
theorem e_skept {M : Mem} {w : Nat} {c : CW} : f_X4_samplesKept (w + 9) (setW M w c) = some (imin (c 9 4) 128, setW M w c) := by
  simp only [f_X4_samplesKept, bd, e_min, rd_W, Nat.reduceLT]
def lateC (x : Int32) (c : CW) : Int32 := if imin (c 9 0) 128 ≤ x then 126 else cget c 10 128 (imod (c 9 0 - 1 - x) 128) &&& 255
theorem e_latest {M : Mem} {w : Nat} {c : CW} {x : Int32} : f_X4_latest (w + 9) x (setW M w c) = some (lateC x c, setW M w c) := by
  simp only [f_X4_latest, bd, jn2, e_okept, e_mod, e_at _ (show 128 < 2 ^ 31 by decide), rd_W, Nat.reduceLT, Nat.add_assoc, Nat.reduceAdd, aget_W, lateC]
  by_cases h : imin (c 9 0) 128 ≤ x <;> simp [h]
def hearC (x f : Int32) (c : CW) : CW :=
  let c1 := cput c 10 128 (imod (c 9 0) 128) (if f = 0 then x else x + 256)
  let c2 := uc c1 9 0 (c 9 0 + 1)
  let c3 := uc c2 9 1 (c 9 1 + (if f = 0 then 0 else 1))
  uc c3 9 3 (if f = 0 then 0 else c 9 3 + 1)
theorem e_hear {M : Mem} {w : Nat} {c : CW} {x f : Int32} : f_X4_hear (w + 9) x f (setW M w c) = some ((), setW M w (hearC x f c)) := by
  simp only [f_X4_hear, nm, bd, jn1, e_mod, e_put _ (show 128 < 2 ^ 31 by decide), wi_W, rd_W, Nat.reduceLT, Nat.add_assoc, Nat.reduceAdd, aput_W, hearC]
  by_cases h : f = 0 <;> simp [h, uc, cput_o]
def samC (x : Int32) (c : CW) : CW := uc (cput c 11 128 (imod (c 9 4) 128) x) 9 4 (c 9 4 + 1)
theorem e_sample {M : Mem} {w : Nat} {c : CW} {x : Int32} : f_X4_addSample (w + 9) x (setW M w c) = some ((), setW M w (samC x c)) := by
  simp only [f_X4_addSample, nm, bd, e_mod, e_put _ (show 128 < 2 ^ 31 by decide), wi_W, rd_W, Nat.reduceLT, Nat.add_assoc, Nat.reduceAdd, aput_W, samC, cput_o (show ¬ 9 = 11 by decide)]
def nlevC (z : Int32) (c : CW) : Int32 := if c 5 0 = 0 then 0 else levC z c
theorem e_nlevel {M : Mem} {w : Nat} {c : CW} {z : Int32} : f_X5_level (w + 5) z (setW M w c) = some (nlevC z c, setW M w c) := by
  simp only [f_X5_level, bd, jn2, rd_W, Nat.reduceLT, Nat.add_assoc, Nat.reduceAdd, e_level, nlevC]
  by_cases h : c 5 0 = 0 <;> simp [h]
def clrC (c : CW) : CW := uc (uc (uc (uc c 5 5 0) 5 6 0) 5 7 0) 5 8 0
theorem e_clear {M : Mem} {w : Nat} {c : CW} : f_X5_clearLoop (w + 5) (setW M w c) = some ((), setW M w (clrC c)) := by
  simp only [f_X5_clearLoop, nm, wi_W, Nat.reduceLT, clrC]
/-- the line that is obeyed lies outside the world -/
def Ow (w r n : Nat) : Prop := r + n ≤ w ∨ w + 12 ≤ r
theorem rd_O {M : Mem} {w r n d k : Nat} {c : CW} (h : Ow w r n) (hd : d < n) : (setW M w c).1 (r + d) k = M.1 (r + d) k := rd_Wo (by unfold Ow at h; omega)
theorem rd_O0 {M : Mem} {w r n k : Nat} {c : CW} (h : Ow w r n) (hd : 0 < n) : (setW M w c).1 r k = M.1 r k := rd_O (d := 0) h hd
theorem aget_O {M : Mem} {w r n d k : Nat} {c : CW} {i : Int32} (h : Ow w r n) (hd : d < n) : aget (setW M w c) (r + d) k i = aget M (r + d) k i := by
  unfold aget
  rw [rd_O h hd]
def ste1C (z : Int32) (c : CW) : CW := if c 5 0 = 1 then (if nlevC z c < c 5 1 then c else clrC (uc c 5 0 2)) else c
def ste2C (u : Int32) (c : CW) : CW :=
  let y := u - c 5 1
  let c1 := uc c 5 6 (imax (-3200) (imin 3200 (c 5 6 + c 5 4 * y)))
  let c2 := uc c1 5 7 (imax (-200) (imin 200 ((c 5 3 * y + c1 5 6) / 16)))
  samC (c 5 8) c2
def steC (z e time : Int32) (c : CW) : CW :=
  let c1 := ste1C z c
  if c1 5 0 = 2 then (if imod time e = 0 then ste2C (nlevC z c) c1 else c1) else c1
theorem e_steer {M : Mem} {w r : Nat} {c : CW} {time : Int32} (ho : Ow w r 8) : f_X5_steer (w + 5) r time (setW M w c) = some ((), setW M w (steC (M.1 r 0) (M.1 r 4) time c)) := by
  simp only [f_X5_steer, nm, bd, jn1, rd_O0 ho (show 0 < 8 by decide), e_nlevel, e_mod, e_within, rd_W, wi_W, Nat.reduceLT, Nat.add_assoc, Nat.reduceAdd, e_sample, e_clear, steC, ste1C, ste2C]
  by_cases h1 : c 5 0 = 1
  · by_cases h2 : nlevC (M.1 r 0) c < c 5 1
    · simp [h1, h2]
    · by_cases h3 : imod time (M.1 r 4) = 0
      · simp [h1, h2, h3, clrC, uc]
      · simp [h1, h2, h3, clrC, uc]
  · by_cases h2 : c 5 0 = 2
    · by_cases h3 : imod time (M.1 r 4) = 0
      · simp [h2, h3, uc]
      · simp [h2, h3]
    · simp [h1, h2]
def nclkC (f : Int32) (c : CW) : CW := if c 5 0 = 2 then uc (uc c 5 5 (c 5 5 + (1000 + c 5 7))) 5 8 (c 5 8 + (f - c 5 7)) else c
theorem e_nclk {M : Mem} {w : Nat} {c : CW} {f : Int32} : f_X5_runClock (w + 5) f (setW M w c) = some ((), setW M w (nclkC f c)) := by
  simp only [f_X5_runClock, nm, jn1, rd_W, wi_W, Nat.reduceLT, nclkC]
  by_cases h : c 5 0 = 2 <;> simp [h, uc]
theorem e_ndue {M : Mem} {w : Nat} {c : CW} : f_X5_isOctetDue (w + 5) (setW M w c) = some (if c 5 0 = 2 then (if c 5 5 < 1000 then 0 else 1) else 0, setW M w c) := by
  simp only [f_X5_isOctetDue, jn0, jn1, gdp, rd_W, Nat.reduceLT]
  by_cases h1 : c 5 0 = 2
  · by_cases h2 : c 5 5 < 1000 <;> simp [h1, h2]
  · simp [h1]
def octL (M : Mem) (r : Nat) (x : Int32) : Int32 := (aget M (r + 1) 16 (imod x (M.1 r 7)) + x) &&& 255
theorem e_oct {M : Mem} {w r : Nat} {c : CW} {x : Int32} (ho : Ow w r 8) : f_X3_octet r x (setW M w c) = some (octL M r x, setW M w c) := by
  simp only [f_X3_octet, bd, e_mod, e_at _ (show 16 < 2 ^ 31 by decide), rd_O0 ho (show 0 < 8 by decide), aget_O ho (show 1 < 8 by decide), octL]
