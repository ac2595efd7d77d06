/-! The pure part: what the decompiled functions do. -/
def Wp {τ : Type} (o : Option τ) (P : τ → Prop) : Prop := ∃ v, o = some v ∧ P v
theorem Wp.ret {τ : Type} {v : τ} {P : τ → Prop} (h : P v) : Wp (some v) P := ⟨v, rfl, h⟩
theorem Wp.mono {τ : Type} {o : Option τ} {P Q : τ → Prop} (h : Wp o P) (k : ∀ v, P v → Q v) : Wp o Q := by
  obtain ⟨v, e, p⟩ := h
  exact ⟨v, e, k v p⟩
theorem Wp.nam {α τ : Type} {v : α} {k : α → Option τ} {P : τ → Prop} (h : Wp (k v) P) : Wp (nm v k) P := h
theorem Wp.bnd {α τ : Type} {o : Option (α × Mem)} {k : α → Mem → Option τ} {P : τ → Prop} (h : Wp o (fun q => Wp (k q.1 q.2) P)) : Wp (bd o k) P := by
  obtain ⟨⟨a, M⟩, e, h2⟩ := h
  subst e
  exact h2
theorem Wp.gi {τ : Type} {i : Int32} {n : Nat} {o : Option τ} {P : τ → Prop} (hi : 0 ≤ i.toInt ∧ i.toInt < (n : Int)) (h : Wp o P) : Wp (gdi i n o) P := by
  unfold gdi
  rw [if_pos hi]
  exact h
theorem Wp.gp {τ : Type} {c : Prop} [Decidable c] {o : Option τ} {P : τ → Prop} (hi : c) (h : Wp o P) : Wp (gdp c o) P := by
  unfold gdp
  rw [if_pos hi]
  exact h
theorem Wp.br {τ : Type} {c : Prop} [Decidable c] {a b : Option τ} {P : τ → Prop} (h1 : c → Wp a P) (h2 : ¬ c → Wp b P) : Wp (if c then a else b) P := by
  by_cases h : c
  · rw [if_pos h]; exact h1 h
  · rw [if_neg h]; exact h2 h
theorem Wp.lp1 {α0 τ : Type} {body : α0 → Option (α0 ⊕ τ)} {Q : τ → Prop} (I : α0 → Nat → Prop) (hb : ∀ a n, I a n → Wp (body a) (fun r => match r with | .inl a' => ∃ n', n' < n ∧ I a' n' | .inr t => Q t)) : ∀ (n fu : Nat) (a : α0), n < fu → I a n → Wp (lop1 fu body a) Q := by
  intro n
  induction n using Nat.strongRecOn with
  | _ n ih =>
    intro fu a hf hI
    obtain ⟨fu, rfl⟩ : ∃ k, fu = k + 1 := ⟨fu - 1, by omega⟩
    obtain ⟨r, e, h⟩ := hb a n hI
    unfold lop1
    rw [e]
    cases r with
    | inl a' =>
      obtain ⟨n', h1, h2⟩ := h
      exact ih n' h1 fu a' (by omega) h2
    | inr t => exact ⟨t, rfl, h⟩
theorem Wp.lp2 {α0 α1 τ : Type} {body : α0 → α1 → Option ((α0 × α1) ⊕ τ)} {Q : τ → Prop} (I : α0 → α1 → Nat → Prop) (hb : ∀ a b n, I a b n → Wp (body a b) (fun r => match r with | .inl (a', b') => ∃ n', n' < n ∧ I a' b' n' | .inr t => Q t)) : ∀ (n fu : Nat) (a : α0) (b : α1), n < fu → I a b n → Wp (lop2 fu body a b) Q := by
  intro n
  induction n using Nat.strongRecOn with
  | _ n ih =>
    intro fu a b hf hI
    obtain ⟨fu, rfl⟩ : ∃ k, fu = k + 1 := ⟨fu - 1, by omega⟩
    obtain ⟨r, e, h⟩ := hb a b n hI
    unfold lop2
    rw [e]
    cases r with
    | inl q =>
      obtain ⟨a', b'⟩ := q
      obtain ⟨n', h1, h2⟩ := h
      exact ih n' h1 fu a' b' (by omega) h2
    | inr t => exact ⟨t, rfl, h⟩
theorem Wp.lp3 {α0 α1 α2 τ : Type} {body : α0 → α1 → α2 → Option ((α0 × α1 × α2) ⊕ τ)} {Q : τ → Prop} (I : α0 → α1 → α2 → Nat → Prop) (hb : ∀ a b c n, I a b c n → Wp (body a b c) (fun r => match r with | .inl (a', b', c') => ∃ n', n' < n ∧ I a' b' c' n' | .inr t => Q t)) : ∀ (n fu : Nat) (a : α0) (b : α1) (c : α2), n < fu → I a b c n → Wp (lop3 fu body a b c) Q := by
  intro n
  induction n using Nat.strongRecOn with
  | _ n ih =>
    intro fu a b c hf hI
    obtain ⟨fu, rfl⟩ : ∃ k, fu = k + 1 := ⟨fu - 1, by omega⟩
    obtain ⟨r, e, h⟩ := hb a b c n hI
    unfold lop3
    rw [e]
    cases r with
    | inl q =>
      obtain ⟨a', b', c'⟩ := q
      obtain ⟨n', h1, h2⟩ := h
      exact ih n' h1 fu a' b' c' (by omega) h2
    | inr t => exact ⟨t, rfl, h⟩
theorem Wp.lp4 {α0 α1 α2 α3 τ : Type} {body : α0 → α1 → α2 → α3 → Option ((α0 × α1 × α2 × α3) ⊕ τ)} {Q : τ → Prop} (I : α0 → α1 → α2 → α3 → Nat → Prop) (hb : ∀ a b c d n, I a b c d n → Wp (body a b c d) (fun r => match r with | .inl (a', b', c', d') => ∃ n', n' < n ∧ I a' b' c' d' n' | .inr t => Q t)) : ∀ (n fu : Nat) (a : α0) (b : α1) (c : α2) (d : α3), n < fu → I a b c d n → Wp (lop4 fu body a b c d) Q := by
  intro n
  induction n using Nat.strongRecOn with
  | _ n ih =>
    intro fu a b c d hf hI
    obtain ⟨fu, rfl⟩ : ∃ k, fu = k + 1 := ⟨fu - 1, by omega⟩
    obtain ⟨r, e, h⟩ := hb a b c d n hI
    unfold lop4
    rw [e]
    cases r with
    | inl q =>
      obtain ⟨a', b', c', d'⟩ := q
      obtain ⟨n', h1, h2⟩ := h
      exact ih n' h1 fu a' b' c' d' (by omega) h2
    | inr t => exact ⟨t, rfl, h⟩
/-! closed forms of the helpers -/
def imin (a b : Int32) : Int32 := if b < a then b else a
def imax (a b : Int32) : Int32 := if a < b then b else a
def iabs (a : Int32) : Int32 := if 0 ≤ a then a else -a
def imod (a b : Int32) : Int32 := if 0 < b then (if 0 ≤ (a ^^^ b) then a - a / b * b else if a - a / b * b = 0 then a - a / b * b else a - a / b * b + b) else 0
def iby (a b : Int32) : Int32 := if b = 0 then 0 else a / b
def aget (M : Mem) (r n : Nat) (i : Int32) : Int32 := if i < 0 then 0 else if Int32.ofNat n ≤ i then 0 else M.1 r i.toNatClampNeg
def aput (M : Mem) (r n : Nat) (i v : Int32) : Mem := if i < 0 then M else if Int32.ofNat n ≤ i then M else wi M r i.toNatClampNeg v
theorem e_min (a b : Int32) (M : Mem) : f_J9_min_7cf53 a b M = some (imin a b, M) := by
  unfold f_J9_min_7cf53 jn1 imin
  by_cases h : b < a <;> simp [h]
theorem e_max (a b : Int32) (M : Mem) : f_J9_max_7cf53 a b M = some (imax a b, M) := by
  unfold f_J9_max_7cf53 jn1 imax
  by_cases h : a < b <;> simp [h]
theorem e_abs (a : Int32) (M : Mem) : f_J9_abs_0f7a4 a M = some (iabs a, M) := by
  unfold f_J9_abs_0f7a4 jn1 iabs
  by_cases h : 0 ≤ a <;> simp [h]
theorem e_mod (a b : Int32) (M : Mem) : f_X10_mod a b M = some (imod a b, M) := by
  unfold f_X10_mod jn2 imod
  by_cases h : 0 < b
  · have hb : ¬ b = 0 := fun e => by subst e; exact absurd h (by decide)
    simp only [h, if_true]
    unfold f_J9_floorMod_7cf53 bd gdp nm jn0
    rw [if_pos hb]
    by_cases h1 : 0 ≤ (a ^^^ b)
    · simp [h1]
    · by_cases h2 : a - a / b * b = 0 <;> simp [h1, h2]
  · simp [h]
theorem e_by (a b : Int32) (M : Mem) : f_X10_by a b M = some (iby a b, M) := by
  unfold f_X10_by jn1 iby gdp
  by_cases h : b = 0 <;> simp [h]
theorem in_rng {i : Int32} {n : Nat} (hn : n < 2 ^ 31) (h1 : ¬ i < 0) (h2 : ¬ Int32.ofNat n ≤ i) : 0 ≤ i.toInt ∧ i.toInt < (n : Int) := by
  have e1 : (Int32.ofNat n).toInt = n := Int32.toInt_ofNat_of_lt hn
  rw [Int32.lt_iff_toInt_lt] at h1
  rw [Int32.le_iff_toInt_le, e1] at h2
  have e0 : (0 : Int32).toInt = 0 := rfl
  omega
theorem e_at {r n : Nat} {i : Int32} (M : Mem) (hn : n < 2 ^ 31) : f_X10_at r n i M = some (aget M r n i, M) := by
  unfold f_X10_at jn1 jn0 aget gdi
  by_cases h1 : i < 0
  · simp [h1]
  · by_cases h2 : Int32.ofNat n ≤ i
    · simp [h1, h2]
    · simp [h1, h2, in_rng hn h1 h2]
theorem e_put {r n : Nat} {i v : Int32} (M : Mem) (hn : n < 2 ^ 31) : f_X10_put r n i v M = some ((), aput M r n i v) := by
  unfold f_X10_put jn1 aput gdi nm
  by_cases h1 : i < 0
  · simp [h1]
  · by_cases h2 : Int32.ofNat n ≤ i
    · simp [h1, h2]
    · simp [h1, h2, in_rng hn h1 h2]
theorem e_within (a b c : Int32) (M : Mem) : f_X10_within a b c M = some (imax b (imin c a), M) := by
  unfold f_X10_within bd
  simp only [e_min, e_max]
/-- a row of n filled with v -/
def afil (M : Mem) (r n : Nat) (v : Int32) : Mem := (fun b j => if b = r ∧ j < n then v else M.1 b j, M.2)
theorem i_add1 {k : Nat} (hk : k + 1 < 2 ^ 31) : Int32.ofNat k + 1 = Int32.ofNat (k + 1) := by
  apply Int32.toInt_inj.mp
  rw [Int32.toInt_add, Int32.toInt_ofNat_of_lt (by omega), Int32.toInt_ofNat_of_lt hk]
  show Int.bmod (k + 1) (2 ^ 32) = _
  rw [Int.bmod_eq_of_le (by omega) (by omega)]
  omega
theorem i_nn {k : Nat} (hk : k < 2 ^ 31) : (Int32.ofNat k).toNatClampNeg = k := by
  have h := Int32.toInt_ofNat_of_lt hk
  unfold Int32.toNatClampNeg
  rw [h]
  rfl
theorem i_le {a b : Nat} (ha : a < 2 ^ 31) (hb : b < 2 ^ 31) : Int32.ofNat a ≤ Int32.ofNat b ↔ a ≤ b := by
  rw [Int32.le_iff_toInt_le, Int32.toInt_ofNat_of_lt ha, Int32.toInt_ofNat_of_lt hb]
  omega
theorem i_lt {a b : Nat} (ha : a < 2 ^ 31) (hb : b < 2 ^ 31) : Int32.ofNat a < Int32.ofNat b ↔ a < b := by
  rw [Int32.lt_iff_toInt_lt, Int32.toInt_ofNat_of_lt ha, Int32.toInt_ofNat_of_lt hb]
  omega
theorem i_in {k n : Nat} (hk : k < n) (hn : n < 2 ^ 31) : 0 ≤ (Int32.ofNat k).toInt ∧ (Int32.ofNat k).toInt < (n : Int) := by
  rw [Int32.toInt_ofNat_of_lt (by omega)]
  omega
theorem Mem.ext' {M N : Mem} (h1 : ∀ b j, M.1 b j = N.1 b j) (h2 : M.2 = N.2) : M = N := by
  obtain ⟨a, b⟩ := M
  obtain ⟨c, d⟩ := N
  have : a = c := funext fun b => funext fun j => h1 b j
  subst this
  cases h2
  rfl
theorem e_fill {r n : Nat} {v : Int32} (M : Mem) (hn : n < 100000) : f_J7_fill_53178 r n v M = some ((), afil M r n v) := by
  have key : Wp (f_J7_fill_53178 r n v M) (fun q => q = ((), afil M r n v)) := by
    unfold f_J7_fill_53178
    refine Wp.nam (Wp.lp2 (fun a M1 k => k ≤ n ∧ a = Int32.ofNat (n - k) ∧ M1 = afil M r (n - k) v) (fun a M1 k hI => ?_) n FU 0 M (by unfold FU; omega) ⟨Nat.le_refl _, by rw [Nat.sub_self]; rfl, ?_⟩)
    · obtain ⟨hk, rfl, rfl⟩ := hI
      unfold l_J7_fill_53178_5
      refine Wp.br (fun h => ?_) (fun h => ?_)
      · have h9 := (i_le (by omega) (by omega)).mp h
        obtain rfl : k = 0 := by omega
        exact Wp.ret rfl
      · have h9 : ¬ n ≤ n - k := fun z => h ((i_le (by omega) (by omega)).mpr z)
        refine Wp.gi (i_in (by omega) (by omega)) ?_
        refine Wp.nam (Wp.nam (Wp.ret ⟨k - 1, by omega, by omega, ?_, ?_⟩))
        · rw [i_add1 (by omega)]
          congr 1
          omega
        · rw [i_nn (by omega)]
          refine Mem.ext' (fun b j => ?_) rfl
          simp only [wi, afil]
          by_cases hb : b = r
          · by_cases hj : j = n - k
            · subst hj
              have : n - k < n - (k - 1) := by omega
              simp [hb, this]
            · by_cases hj2 : j < n - k
              · have : j < n - (k - 1) := by omega
                simp [hb, hj, hj2, this]
              · have : ¬ j < n - (k - 1) := by omega
                simp [hb, hj, hj2, this]
          · simp [hb]
    · refine Mem.ext' (fun b j => ?_) rfl
      simp [afil]
  obtain ⟨q, e, h⟩ := key
  rw [e, h]
