/-! Rules: what a code is worth, in class and model. -/
def combC (u x y : Int32) : Int32 := if u = -12 then x * y else if u = -11 then x - y else if u = -10 then x + y else if u = -9 then (if x = y then 1 else 0) else if u = -8 then (if y ≤ x then 0 else 1) else if u = -7 then (if x = 0 then 0 else if y = 0 then 0 else 1) else if u = -6 then (if x = 0 then (if y = 0 then 0 else 1) else 1) else (if y = 0 then 0 else x / y)
def pickC (u a b c d : Int32) : Int32 := if u = -3 then c else if u = -2 then b else if u = -1 then a else d
theorem e_comb (u x y : Int32) (M : Mem) : f_X7_combined u x y M = some (combC u x y, M) := by
  unfold f_X7_combined combC jn1 jn0 gdp
  by_cases h : u.toInt < -12 ∨ -6 < u.toInt
  · have n1 : ¬ u = -12 := fun e => by subst e; revert h; decide
    have n2 : ¬ u = -11 := fun e => by subst e; revert h; decide
    have n3 : ¬ u = -10 := fun e => by subst e; revert h; decide
    have n4 : ¬ u = -9 := fun e => by subst e; revert h; decide
    have n5 : ¬ u = -8 := fun e => by subst e; revert h; decide
    have n6 : ¬ u = -7 := fun e => by subst e; revert h; decide
    have n7 : ¬ u = -6 := fun e => by subst e; revert h; decide
    by_cases hy : y = 0 <;> simp [h, n1, n2, n3, n4, n5, n6, n7, hy]
  · by_cases n1 : u = -12
    · subst n1; rfl
    by_cases n2 : u = -11
    · subst n2; rfl
    by_cases n3 : u = -10
    · subst n3; rfl
    by_cases n4 : u = -9
    · subst n4
      by_cases e : x = y <;> simp [h, e]
    by_cases n5 : u = -8
    · subst n5
      by_cases e : y ≤ x <;> simp [h, e]
    by_cases n6 : u = -7
    · subst n6
      by_cases e : x = 0
      · simp [h, e]
      · by_cases f : y = 0 <;> simp [h, e, f]
    by_cases n7 : u = -6
    · subst n7
      by_cases e : x = 0
      · by_cases f : y = 0 <;> simp [h, e, f]
      · simp [h, e]
    exfalso
    have k : ∀ v : Int32, ¬ u = v → u.toInt ≠ v.toInt := fun v hv e => hv (Int32.toInt_inj.mp e)
    have k1 : u.toInt ≠ -12 := k (-12) n1
    have k2 : u.toInt ≠ -11 := k (-11) n2
    have k3 : u.toInt ≠ -10 := k (-10) n3
    have k4 : u.toInt ≠ -9 := k (-9) n4
    have k5 : u.toInt ≠ -8 := k (-8) n5
    have k6 : u.toInt ≠ -7 := k (-7) n6
    have k7 : u.toInt ≠ -6 := k (-6) n7
    omega
theorem e_pick (u a b c d : Int32) (M : Mem) : f_X7_pick u a b c d M = some (pickC u a b c d, M) := by
  unfold f_X7_pick pickC
  by_cases h : u.toInt < -3 ∨ -1 < u.toInt
  · have n1 : ¬ u = -3 := fun e => by subst e; revert h; decide
    have n2 : ¬ u = -2 := fun e => by subst e; revert h; decide
    have n3 : ¬ u = -1 := fun e => by subst e; revert h; decide
    simp [h, n1, n2, n3]
  · by_cases n1 : u = -3
    · subst n1; rfl
    by_cases n2 : u = -2
    · subst n2; rfl
    by_cases n3 : u = -1
    · subst n3; rfl
    exfalso
    have k : ∀ v : Int32, ¬ u = v → u.toInt ≠ v.toInt := fun v hv e => hv (Int32.toInt_inj.mp e)
    have k1 : u.toInt ≠ -3 := k (-3) n1
    have k2 : u.toInt ≠ -2 := k (-2) n2
    have k3 : u.toInt ≠ -1 := k (-1) n3
    omega
/-- a row put in another's place -/
def rset (M : Mem) (q : Nat) (S : Nat → Int32) : Mem := (fun b j => if b = q then S j else M.1 b j, M.2)
theorem rset_get {M : Mem} {q : Nat} : rset M q (M.1 q) = M := by
  refine Mem.ext' (fun b j => ?_) rfl
  simp only [rset]
  by_cases h : b = q
  · rw [if_pos h, h]
  · rw [if_neg h]
theorem rset_rd {M : Mem} {q j : Nat} {S : Nat → Int32} : (rset M q S).1 q j = S j := by simp [rset]
theorem rset_ne {M : Mem} {q b j : Nat} {S : Nat → Int32} (h : ¬ b = q) : (rset M q S).1 b j = M.1 b j := by simp [rset, h]
theorem rset_rset {M : Mem} {q : Nat} {S T : Nat → Int32} : rset (rset M q S) q T = rset M q T := by
  refine Mem.ext' (fun b j => ?_) rfl
  simp only [rset]
  by_cases h : b = q <;> simp [h]
def rup (S : Nat → Int32) (k : Nat) (v : Int32) : Nat → Int32 := fun j => if j = k then v else S j
theorem rup_s {S : Nat → Int32} {k : Nat} {v : Int32} : rup S k v k = v := if_pos rfl
theorem rup_o {S : Nat → Int32} {k j : Nat} {v : Int32} (h : ¬ j = k) : rup S k v j = S j := if_neg h
theorem wi_rset {M : Mem} {q k : Nat} {S : Nat → Int32} {v : Int32} : wi (rset M q S) q k v = rset M q (rup S k v) := by
  refine Mem.ext' (fun b j => ?_) rfl
  simp only [wi, rset, rup]
  by_cases hb : b = q
  · by_cases hj : j = k <;> simp [hb, hj]
  · simp [hb]
def StL (S : Nat → Int32) : List Int32 → Prop
  | [] => True
  | v :: l => S l.length = v ∧ StL S l
theorem StL.up {S : Nat → Int32} {k : Nat} {v : Int32} : ∀ {l : List Int32}, l.length ≤ k → StL S l → StL (rup S k v) l
  | [], _, _ => trivial
  | w :: l, h, hs => by
    have h1 : l.length + 1 ≤ k := h
    exact ⟨by rw [rup_o (by omega)]; exact hs.1, StL.up (by omega) hs.2⟩
theorem StL.push {S : Nat → Int32} {v : Int32} {l : List Int32} (hs : StL S l) : StL (rup S l.length v) (v :: l) := ⟨rup_s, hs.up (Nat.le_refl _)⟩
def pv (a b c d u : Int32) : Int32 := if u < 0 then pickC u a b c d else u
def ev1 (a b c d u : Int32) (l : List Int32) : List Int32 := if (-5 : Int32) ≤ u then (if u = -5 then (if l.headD 0 = 0 then 1 else 0) :: l.tail else pv a b c d u :: l) else combC u (l.tail.headD 0) (l.headD 0) :: l.tail.tail
def evl (a b c d : Int32) : List Int32 → List Int32 → List Int32
  | [], l => l
  | u :: cs, l => evl a b c d cs (ev1 a b c d u l)
/-- how deep the stack is behind a code; none if it falls too low or rises too high -/
def dpl : List Int32 → Nat → Option Nat
  | [], d => some d
  | u :: cs, d => if (-5 : Int32) ≤ u then (if u = -5 then (if 1 ≤ d then dpl cs d else none) else (if d < 40 then dpl cs (d + 1) else none)) else (if -13 ≤ u.toInt ∧ 2 ≤ d then dpl cs (d - 1) else none)
theorem dpl_app : ∀ (cs ds : List Int32) (d : Nat), dpl (cs ++ ds) d = (dpl cs d).bind (dpl ds)
  | [], ds, d => rfl
  | u :: cs, ds, d => by
    simp only [List.cons_append, dpl]
    by_cases h1 : (-5 : Int32) ≤ u
    · by_cases h2 : u = -5
      · by_cases h3 : 1 ≤ d
        · simp only [if_pos h1, if_pos h2, if_pos h3, dpl_app cs ds]
        · simp only [if_pos h1, if_pos h2, if_neg h3]
          rfl
      · by_cases h3 : d < 40
        · simp only [if_pos h1, if_neg h2, if_pos h3, dpl_app cs ds]
        · simp only [if_pos h1, if_neg h2, if_neg h3]
          rfl
    · by_cases h3 : -13 ≤ u.toInt ∧ 2 ≤ d
      · simp only [if_neg h1, if_pos h3, dpl_app cs ds]
      · simp only [if_neg h1, if_neg h3]
        rfl
/-- one round of the value loop, what it puts where -/
theorem v_push {M : Mem} {t n i k : Nat} {a b c d u : Int32} {S : Nat → Int32} (hn : M.1 t 1 = Int32.ofNat n) (h7 : n ≤ 700) (hi : i < n) (hu : M.1 (t + 1) i = u) (h1 : (-5 : Int32) ≤ u) (h2 : ¬ u = -5) (hk : k < 40) : l_X7_value_6 t a b c d (Int32.ofNat k) (Int32.ofNat i) (rset M (t + 2) S) = some (.inl (Int32.ofNat (k + 1), Int32.ofNat (i + 1), rset M (t + 2) (rup S k (pv a b c d u)))) := by
  have hlt : ¬ Int32.ofNat n ≤ Int32.ofNat i := fun h => by
    have := (i_le (by omega) (by omega)).mp h
    omega
  have hlen : (rset M (t + 2) S).1 t 1 = Int32.ofNat n := by rw [rset_ne (by omega), hn]
  have hcd : f_X10_at (t + 1) 700 (Int32.ofNat i) (rset M (t + 2) S) = some (u, rset M (t + 2) S) := by rw [at_nat (by omega) (by decide), rset_ne (by omega), hu]
  have hp : ∀ v : Int32, f_X10_put (t + 2) 40 (Int32.ofNat k) v (rset M (t + 2) S) = some ((), rset M (t + 2) (rup S k v)) := fun v => by rw [put_nat hk (by decide), wi_rset]
  unfold l_X7_value_6
  rw [hlen, if_neg hlt, bd_eq hcd]
  simp only [jn2, if_pos h1, if_neg h2]
  unfold pv
  by_cases h3 : u < 0
  · rw [if_pos h3, bd_eq (e_pick u a b c d _), bd_eq (hp _), if_pos h3]
    simp only [nm, i_add1 (show i + 1 < 2 ^ 31 by omega), i_add1 (show k + 1 < 2 ^ 31 by omega)]
  · rw [if_neg h3, bd_eq (hp _), if_neg h3]
    simp only [nm, i_add1 (show i + 1 < 2 ^ 31 by omega), i_add1 (show k + 1 < 2 ^ 31 by omega)]
theorem v_not {M : Mem} {t n i k : Nat} {a b c d : Int32} {S : Nat → Int32} (hn : M.1 t 1 = Int32.ofNat n) (h7 : n ≤ 700) (hi : i < n) (hu : M.1 (t + 1) i = -5) (hk : k < 40) : l_X7_value_6 t a b c d (Int32.ofNat (k + 1)) (Int32.ofNat i) (rset M (t + 2) S) = some (.inl (Int32.ofNat (k + 1), Int32.ofNat (i + 1), rset M (t + 2) (rup S k (if S k = 0 then 1 else 0)))) := by
  have hlt : ¬ Int32.ofNat n ≤ Int32.ofNat i := fun h => by
    have := (i_le (by omega) (by omega)).mp h
    omega
  have hlen : (rset M (t + 2) S).1 t 1 = Int32.ofNat n := by rw [rset_ne (by omega), hn]
  have hcd : f_X10_at (t + 1) 700 (Int32.ofNat i) (rset M (t + 2) S) = some (-5, rset M (t + 2) S) := by rw [at_nat (by omega) (by decide), rset_ne (by omega), hu]
  have ha : f_X10_at (t + 2) 40 (Int32.ofNat k) (rset M (t + 2) S) = some (S k, rset M (t + 2) S) := by rw [at_nat hk (by decide), rset_rd]
  have hp : ∀ v : Int32, f_X10_put (t + 2) 40 (Int32.ofNat k) v (rset M (t + 2) S) = some ((), rset M (t + 2) (rup S k v)) := fun v => by rw [put_nat hk (by decide), wi_rset]
  have hs := i_sub1 (show k + 1 < 2 ^ 31 by omega)
  have q1 : (-5 : Int32) ≤ -5 := by decide
  unfold l_X7_value_6
  rw [hlen, if_neg hlt, bd_eq hcd]
  simp only [jn2, if_pos q1, if_true, hs]
  rw [bd_eq ha]
  by_cases h3 : S k = 0
  · simp only [jn1, if_pos h3]
    rw [bd_eq (hp _)]
    simp only [nm, i_add1 (show i + 1 < 2 ^ 31 by omega)]
  · simp only [jn1, if_neg h3]
    rw [bd_eq (hp _)]
    simp only [nm, i_add1 (show i + 1 < 2 ^ 31 by omega)]
theorem v_bin_abs {M : Mem} {M' : Int32 → Mem} {t : Nat} {a b c d u x y K2 K1 K0 I I1 : Int32} (e1 : K2 + -1 = K1) (e2 : K1 - 1 = K0) (eI : I + 1 = I1) (h1 : ¬ (-5 : Int32) ≤ u) (hlt : ¬ M.1 t 1 ≤ I) (hcd : f_X10_at (t + 1) 700 I M = some (u, M)) (h0 : f_X10_at (t + 2) 40 K0 M = some (x, M)) (hy : f_X10_at (t + 2) 40 K1 M = some (y, M)) (hp : ∀ v, f_X10_put (t + 2) 40 K0 v M = some ((), M' v)) : l_X7_value_6 t a b c d K2 I M = some (.inl (K1, I1, M' (combC u x y))) := by
  refine Wp.eq ?_
  unfold l_X7_value_6
  refine Wp.ng hlt ?_
  refine Wp.cl hcd ?_
  refine Wp.j2 ?_
  refine Wp.ng h1 ?_
  refine Wp.nam ?_
  subst e1 e2 eI
  refine Wp.cl h0 ?_
  refine Wp.cl hy ?_
  refine Wp.cl (e_comb u _ _ _) ?_
  refine Wp.cl (hp _) ?_
  exact Wp.ret rfl
theorem v_bin {M : Mem} {t n i k : Nat} {a b c d u : Int32} {S : Nat → Int32} (hn : M.1 t 1 = Int32.ofNat n) (h7 : n ≤ 700) (hi : i < n) (hu : M.1 (t + 1) i = u) (h1 : ¬ (-5 : Int32) ≤ u) (hk : k + 1 < 40) : l_X7_value_6 t a b c d (Int32.ofNat (k + 1 + 1)) (Int32.ofNat i) (rset M (t + 2) S) = some (.inl (Int32.ofNat (k + 1), Int32.ofNat (i + 1), rset M (t + 2) (rup S k (combC u (S k) (S (k + 1)))))) := by
  have hlt : ¬ Int32.ofNat n ≤ Int32.ofNat i := fun h => by
    have := (i_le (by omega) (by omega)).mp h
    omega
  have hlen : (rset M (t + 2) S).1 t 1 = Int32.ofNat n := by rw [rset_ne (by omega), hn]
  have hcd : f_X10_at (t + 1) 700 (Int32.ofNat i) (rset M (t + 2) S) = some (u, rset M (t + 2) S) := by rw [at_nat (by omega) (by decide), rset_ne (by omega), hu]
  have ha : ∀ k < 40, f_X10_at (t + 2) 40 (Int32.ofNat k) (rset M (t + 2) S) = some (S k, rset M (t + 2) S) := fun k hk => by rw [at_nat hk (by decide), rset_rd]
  have hp : ∀ v : Int32, f_X10_put (t + 2) 40 (Int32.ofNat k) v (rset M (t + 2) S) = some ((), rset M (t + 2) (rup S k v)) := fun v => by rw [put_nat (by omega) (by decide), wi_rset]
  have hs := i_sub1 (show k + 1 < 2 ^ 31 by omega)
  have hs2 := i_addm1 (show k + 1 + 1 < 2 ^ 31 by omega)
  have hle : ¬ (rset M (t + 2) S).1 t 1 ≤ Int32.ofNat i := by rw [hlen]; exact hlt
  exact v_bin_abs (M' := fun v => rset M (t + 2) (rup S k v)) hs2 hs (i_add1 (show i + 1 < 2 ^ 31 by omega)) h1 hle hcd (ha k (by omega)) (ha (k + 1) hk) hp
theorem at_0 {M : Mem} {r n : Nat} (hk : 0 < n) (hn : n < 2 ^ 31) : f_X10_at r n (0 : Int32) M = some (M.1 r 0, M) := at_nat (k := 0) hk hn
theorem lop3_inl {α0 α1 α2 τ : Type} {fu : Nat} {b : α0 → α1 → α2 → Option ((α0 × α1 × α2) ⊕ τ)} {x y x' y' : _} {z z' : _} (h : b x y z = some (.inl (x', y', z'))) : lop3 (fu + 1) b x y z = lop3 fu b x' y' z' := by
  simp only [lop3, h]
theorem lop3_inr {α0 α1 α2 τ : Type} {fu : Nat} {b : α0 → α1 → α2 → Option ((α0 × α1 × α2) ⊕ τ)} {x y : _} {z : _} {t : τ} (h : b x y z = some (.inr t)) : lop3 (fu + 1) b x y z = some t := by
  simp only [lop3, h]
theorem v_run {M : Mem} {t n : Nat} {a b c d : Int32} (hn : M.1 t 1 = Int32.ofNat n) (h7 : n ≤ 700) : ∀ (cs : List Int32) (i : Nat) (l : List Int32) (S : Nat → Int32) (d' : Nat), dpl cs l.length = some d' → l.length ≤ 40 → StL S l → i + cs.length = n → (∀ j, j < cs.length → M.1 (t + 1) (i + j) = cs.getD j 0) → ∀ fu, cs.length < fu → ∃ S' : Nat → Int32, lop3 fu (l_X7_value_6 t a b c d) (Int32.ofNat l.length) (Int32.ofNat i) (rset M (t + 2) S) = some (S' 0, rset M (t + 2) S') ∧ StL S' (evl a b c d cs l) ∧ (evl a b c d cs l).length = d' := by
  intro cs
  induction cs with
  | nil =>
    intro i l S d' hd hl hs hi hc fu hf
    obtain ⟨fu, rfl⟩ : ∃ k, fu = k + 1 := ⟨fu - 1, by have : 0 < fu := hf; omega⟩
    have hi2 : i = n := by simpa using hi
    subst hi2
    refine ⟨S, lop3_inr ?_, hs, by simpa [dpl, evl] using hd⟩
    unfold l_X7_value_6
    rw [rset_ne (by omega), hn, if_pos ((i_le (by omega) (by omega)).mpr (Nat.le_refl _)), bd_eq (at_0 (by decide) (by decide)), rset_rd]
  | cons u cs ih =>
    intro i l S d' hd hl hs hi hc fu hf
    obtain ⟨fu, rfl⟩ : ∃ k, fu = k + 1 := ⟨fu - 1, by have : (u :: cs).length < fu := hf; omega⟩
    have hlen : (u :: cs).length = cs.length + 1 := rfl
    have hin : i < n := by omega
    have hu : M.1 (t + 1) i = u := hc 0 (by omega)
    have hc2 : ∀ j, j < cs.length → M.1 (t + 1) (i + 1 + j) = cs.getD j 0 := fun j hj => by
      have := hc (j + 1) (by omega)
      rw [show i + 1 + j = i + (j + 1) by omega, this]
      rfl
    simp only [dpl] at hd
    by_cases h1 : (-5 : Int32) ≤ u
    · by_cases h2 : u = -5
      · subst h2
        rw [if_pos h1, if_pos rfl] at hd
        by_cases h3 : 1 ≤ l.length
        · rw [if_pos h3] at hd
          cases l with
          | nil => exact absurd h3 (by decide)
          | cons x l =>
            have hq : (x :: l).length = l.length + 1 := rfl
            have e1 := v_not (M := M) (t := t) (a := a) (b := b) (c := c) (d := d) (S := S) (k := l.length) hn h7 hin hu (by omega)
            have hx : S l.length = x := hs.1
            rw [hx] at e1
            obtain ⟨S', g1, g2, g3⟩ := ih (i + 1) ((if x = 0 then 1 else 0) :: l) (rup S l.length (if x = 0 then 1 else 0)) d' hd hl (StL.push hs.2) (by omega) hc2 fu (by omega)
            refine ⟨S', ?_, g2, g3⟩
            rw [hq, lop3_inl e1]
            exact g1
        · rw [if_neg h3] at hd
          cases hd
      · rw [if_pos h1, if_neg h2] at hd
        by_cases h3 : l.length < 40
        · rw [if_pos h3] at hd
          have e1 := v_push (M := M) (t := t) (a := a) (b := b) (c := c) (d := d) (S := S) hn h7 hin hu h1 h2 h3
          obtain ⟨S', g1, g2, g3⟩ := ih (i + 1) (pv a b c d u :: l) (rup S l.length (pv a b c d u)) d' hd h3 (StL.push hs) (by omega) hc2 fu (by omega)
          have hev : ev1 a b c d u l = pv a b c d u :: l := by unfold ev1; rw [if_pos h1, if_neg h2]
          refine ⟨S', ?_, by simpa only [evl, hev] using g2, by simpa only [evl, hev] using g3⟩
          rw [lop3_inl e1]
          exact g1
        · rw [if_neg h3] at hd
          cases hd
    · rw [if_neg h1] at hd
      by_cases h3 : -13 ≤ u.toInt ∧ 2 ≤ l.length
      · rw [if_pos h3] at hd
        cases l with
        | nil => exact absurd h3.2 (by simp)
        | cons y l =>
          cases l with
          | nil => exact absurd h3.2 (by simp)
          | cons x l =>
            have hq : (y :: x :: l).length = l.length + 1 + 1 := rfl
            have e1 := v_bin (M := M) (t := t) (a := a) (b := b) (c := c) (d := d) (S := S) (k := l.length) hn h7 hin hu h1 (by omega)
            have hy : S (l.length + 1) = y := hs.1
            have hx : S l.length = x := hs.2.1
            rw [hx, hy] at e1
            obtain ⟨S', g1, g2, g3⟩ := ih (i + 1) (combC u x y :: l) (rup S l.length (combC u x y)) d' hd (by have h9 : (combC u x y :: l).length = l.length + 1 := rfl; omega) (StL.push hs.2.2) (by omega) hc2 fu (by omega)
            have hev : ev1 a b c d u (y :: x :: l) = combC u x y :: l := by unfold ev1; rw [if_neg h1]; rfl
            refine ⟨S', ?_, by simpa only [evl, hev] using g2, by simpa only [evl, hev] using g3⟩
            rw [hq, lop3_inl e1]
            exact g1
      · rw [if_neg h3] at hd
        cases hd
def valS (cs : List Int32) (a b c d : Int32) : Int32 := (evl a b c d cs []).headD 0
theorem StL_0 {S : Nat → Int32} {l : List Int32} (hs : StL S l) (h : l.length = 1) : S 0 = l.headD 0 := by
  cases l with
  | nil => exact absurd h (by decide)
  | cons x l =>
    cases l with
    | nil => exact hs.1
    | cons y l => simp at h
/-- a rule's code lies in rows -/
def Rul (M : Mem) (t : Nat) (cs : List Int32) : Prop := M.1 t 1 = Int32.ofNat cs.length ∧ cs.length ≤ 700 ∧ ∀ j, j < cs.length → M.1 (t + 1) j = cs.getD j 0
theorem e_value {M : Mem} {t : Nat} {cs : List Int32} {a b c d : Int32} (h : Rul M t cs) (hd : dpl cs 0 = some 1) : ∃ S' : Nat → Int32, f_X7_value t a b c d M = some (valS cs a b c d, rset M (t + 2) S') := by
  obtain ⟨h1, h2, h3⟩ := h
  obtain ⟨S', g1, g2, g3⟩ := v_run (a := a) (b := b) (c := c) (d := d) h1 h2 cs 0 [] (M.1 (t + 2)) 1 hd (by decide) trivial (by simp) (fun j hj => by rw [Nat.zero_add]; exact h3 j hj) FU (by unfold FU; omega)
  rw [rset_get] at g1
  refine ⟨S', ?_⟩
  unfold f_X7_value valS
  rw [← StL_0 g2 g3]
  exact g1
