/-! TOKENs: the class's advance -/
abbrev isLt (c : Int32) : Prop := ¬ c < 97 ∧ ¬ 122 < c
abbrev isDg (c : Int32) : Prop := ¬ c < 48 ∧ ¬ 57 < c
abbrev isMk (c : Int32) : Prop := c = 59 ∨ c = 40 ∨ c = 41 ∨ c = 43 ∨ c = 45 ∨ c = 42 ∨ c = 47 ∨ c = 60 ∨ c = 61
def kindP (c : Int32) : Int32 := if isLt c then 2 else if isDg c then 3 else if isMk c then c else 1
theorem e_kindOf {c : Int32} {M : Mem} : f_X6_kindOf c M = some (kindP c, M) := by
  by_cases h1 : isLt c
  · unfold kindP
    rw [if_pos h1]
    refine Wp.eq ?_
    unfold f_X6_kindOf
    exact Wp.j0 (Wp.ng h1.1 (Wp.ng h1.2 (Wp.ret rfl)))
  · by_cases h2 : isDg c
    · unfold kindP
      rw [if_neg h1, if_pos h2]
      refine Wp.eq ?_
      unfold f_X6_kindOf
      refine Wp.j0 (Wp.br (fun _ => Wp.j0 (Wp.ng h2.1 (Wp.ng h2.2 (Wp.ret rfl)))) (fun g => Wp.ps ?_ (Wp.j0 (Wp.ng h2.1 (Wp.ng h2.2 (Wp.ret rfl))))))
      exact Classical.byContradiction fun q => h1 ⟨g, q⟩
    · by_cases h3 : c.toInt < 40 ∨ 61 < c.toInt
      · have h4 : ¬ isMk c := fun q => by

          rcases q with e | e | e | e | e | e | e | e | e <;> subst e <;> revert h3 <;> decide
        have e : kindP c = 1 := by
          unfold kindP
          rw [if_neg h1, if_neg h2, if_neg h4]
        rw [e]
        refine Wp.eq ?_
        unfold f_X6_kindOf
        have tail : Wp (jn0 (fun _ => jn0 (fun _ => some (c, M)) (fun J132 => jn0 (fun _ => some ((1 : Int32), M)) (fun J134 => if c.toInt < 40 ∨ 61 < c.toInt then (J134 ()) else if c = (40 : Int32) then (J132 ()) else if c = (41 : Int32) then (J132 ()) else if c = (42 : Int32) then (J132 ()) else if c = (43 : Int32) then (J132 ()) else if c = (44 : Int32) then (J134 ()) else if c = (45 : Int32) then (J132 ()) else if c = (46 : Int32) then (J134 ()) else if c = (47 : Int32) then (J132 ()) else if c = (48 : Int32) then (J134 ()) else if c = (49 : Int32) then (J134 ()) else if c = (50 : Int32) then (J134 ()) else if c = (51 : Int32) then (J134 ()) else if c = (52 : Int32) then (J134 ()) else if c = (53 : Int32) then (J134 ()) else if c = (54 : Int32) then (J134 ()) else if c = (55 : Int32) then (J134 ()) else if c = (56 : Int32) then (J134 ()) else if c = (57 : Int32) then (J134 ()) else if c = (58 : Int32) then (J134 ()) else if c = (59 : Int32) then (J132 ()) else if c = (60 : Int32) then (J132 ()) else if c = (61 : Int32) then (J132 ()) else none))) (fun J28 => if c < (48 : Int32) then (J28 ()) else (if (57 : Int32) < c then (J28 ()) else (some ((3 : Int32), M))))) (fun q => q = (1, M)) := by
          refine Wp.j0 (Wp.br (fun _ => Wp.j0 (Wp.j0 (Wp.ps h3 (Wp.ret rfl)))) (fun g => Wp.ps ?_ (Wp.j0 (Wp.j0 (Wp.ps h3 (Wp.ret rfl))))))
          exact Classical.byContradiction fun q => h2 ⟨g, q⟩
        refine Wp.j0 (Wp.br (fun _ => tail) (fun g => Wp.ps ?_ tail))
        exact Classical.byContradiction fun q => h1 ⟨g, q⟩
      · have h5 : c = 40 ∨ c = 41 ∨ c = 42 ∨ c = 43 ∨ c = 44 ∨ c = 45 ∨ c = 46 ∨ c = 47 ∨ c = 58 ∨ c = 59 ∨ c = 60 ∨ c = 61 := by
          have h6 : ∀ v : Int32, c.toInt = v.toInt → c = v := fun v e => Int32.toInt_inj.mp e
          have h7 : ¬ (48 ≤ c.toInt ∧ c.toInt ≤ 57) := fun q => h2 ⟨nlt_of q.1, nlt_of q.2⟩
          have h8 : c.toInt = 40 ∨ c.toInt = 41 ∨ c.toInt = 42 ∨ c.toInt = 43 ∨ c.toInt = 44 ∨ c.toInt = 45 ∨ c.toInt = 46 ∨ c.toInt = 47 ∨ c.toInt = 58 ∨ c.toInt = 59 ∨ c.toInt = 60 ∨ c.toInt = 61 := by omega
          rcases h8 with e | e | e | e | e | e | e | e | e | e | e | e
          · exact Or.inl (h6 _ e)
          · exact Or.inr (Or.inl (h6 _ e))
          · exact Or.inr (Or.inr (Or.inl (h6 _ e)))
          · exact Or.inr (Or.inr (Or.inr (Or.inl (h6 _ e))))
          · exact Or.inr (Or.inr (Or.inr (Or.inr (Or.inl (h6 _ e)))))
          · exact Or.inr (Or.inr (Or.inr (Or.inr (Or.inr (Or.inl (h6 _ e))))))
          · exact Or.inr (Or.inr (Or.inr (Or.inr (Or.inr (Or.inr (Or.inl (h6 _ e)))))))
          · exact Or.inr (Or.inr (Or.inr (Or.inr (Or.inr (Or.inr (Or.inr (Or.inl (h6 _ e))))))))
          · exact Or.inr (Or.inr (Or.inr (Or.inr (Or.inr (Or.inr (Or.inr (Or.inr (Or.inl (h6 _ e)))))))))
          · exact Or.inr (Or.inr (Or.inr (Or.inr (Or.inr (Or.inr (Or.inr (Or.inr (Or.inr (Or.inl (h6 _ e))))))))))
          · exact Or.inr (Or.inr (Or.inr (Or.inr (Or.inr (Or.inr (Or.inr (Or.inr (Or.inr (Or.inr (Or.inl (h6 _ e)))))))))))
          · exact Or.inr (Or.inr (Or.inr (Or.inr (Or.inr (Or.inr (Or.inr (Or.inr (Or.inr (Or.inr (Or.inr (h6 _ e)))))))))))
        rcases h5 with e | e | e | e | e | e | e | e | e | e | e | e <;> subst e <;> rfl
/-- a run of like ones, from p on, as far as it goes -/
def Run (P : Nat → Prop) (p pos len : Nat) : Prop := p ≤ pos ∧ pos ≤ len ∧ (∀ j, p ≤ j → j < pos → P j) ∧ (pos < len → ¬ P pos)
theorem Run.uq {P : Nat → Prop} {p a b len : Nat} (h1 : Run P p a len) (h2 : Run P p b len) : a = b := by
  obtain ⟨a1, a2, a3, a4⟩ := h1
  obtain ⟨b1, b2, b3, b4⟩ := h2
  by_cases e : a < b
  · exact absurd (b3 a a1 e) (a4 (by omega))
  · by_cases e2 : b < a
    · exact absurd (a3 b b1 e2) (b4 (by omega))
    · omega
theorem Run.nil {P : Nat → Prop} {p len : Nat} (hp : p ≤ len) (h : p < len → ¬ P p) : Run P p p len := ⟨Nat.le_refl _, hp, fun j a b => by omega, h⟩
theorem Run.cons {P : Nat → Prop} {p pos len : Nat} (h : P p) (hr : Run P (p + 1) pos len) : Run P p pos len := by
  obtain ⟨a1, a2, a3, a4⟩ := hr
  refine ⟨by omega, a2, fun j x y => ?_, a4⟩
  by_cases e : j = p
  · rw [e]; exact h
  · exact a3 j (by omega) y
def isWs (c : Int32) : Prop := c = 32 ∨ c = 10
/-- the TOKEN from p on: where it starts and ends, of which kind it is -/
def Tok (tp : Nat → Int32) (len p st pos : Nat) (kd : Int32) : Prop := Run (fun j => isWs (tp j)) p st len ∧ ((st = len ∧ pos = st ∧ kd = 0) ∨ (st < len ∧ kd = kindP (tp st) ∧ (((kd = 2 ∨ kd = 3) ∧ Run (fun j => kindP (tp j) = kd) (st + 1) pos len) ∨ (¬ (kd = 2 ∨ kd = 3) ∧ pos = st + 1))))
theorem Tok.uq {tp : Nat → Int32} {len p st pos st' pos' : Nat} {kd kd' : Int32} (h : Tok tp len p st pos kd) (h' : Tok tp len p st' pos' kd') : st = st' ∧ pos = pos' ∧ kd = kd' := by
  obtain ⟨h1, h2⟩ := h
  obtain ⟨h1', h2'⟩ := h'
  have e := h1.uq h1'
  subst e
  rcases h2 with ⟨a, b, c⟩ | ⟨a, b, c⟩ <;> rcases h2' with ⟨a', b', c'⟩ | ⟨a', b', c'⟩
  · exact ⟨rfl, by omega, by rw [c, c']⟩
  · omega
  · omega
  · have ek : kd = kd' := by rw [b, b']
    subst ek
    rcases c with ⟨c1, c2⟩ | ⟨c1, c2⟩ <;> rcases c' with ⟨c1', c2'⟩ | ⟨c1', c2'⟩
    · exact ⟨rfl, c2.uq c2', rfl⟩
    · exact absurd c1 c1'
    · exact absurd c1' c1
    · exact ⟨rfl, by omega, rfl⟩
theorem Tok.le {tp : Nat → Int32} {len p st pos : Nat} {kd : Int32} (h : Tok tp len p st pos kd) : p ≤ st ∧ st ≤ pos ∧ pos ≤ len ∧ (¬ kd = 0 → st < pos) := by
  obtain ⟨⟨a1, a2, _, _⟩, h2⟩ := h
  rcases h2 with ⟨a, b, c⟩ | ⟨a, b, c⟩
  · exact ⟨a1, by omega, by omega, fun g => absurd c g⟩
  · rcases c with ⟨c1, c2, c3, _⟩ | ⟨c1, c2⟩
    · exact ⟨a1, by omega, c3, fun _ => by omega⟩
    · exact ⟨a1, by omega, by omega, fun _ => by omega⟩
def CTp (x : Nat) (tp : Nat → Int32) (len : Nat) (M : Mem) : Prop := (len ≤ 700 ∧ M.1 (x + 1) 7 = -1) ∧ M.1 (x + 1) 2 = Int32.ofNat len ∧ ∀ j, j < len → M.1 (x + 2) j = tp j
theorem CTp.cg {x : Nat} {tp : Nat → Int32} {len : Nat} {M M' : Mem} (h : CTp x tp len M) (e : M'.1 (x + 1) 2 = M.1 (x + 1) 2) (e2 : M'.1 (x + 2) = M.1 (x + 2)) (e7 : M'.1 (x + 1) 7 = M.1 (x + 1) 7) : CTp x tp len M' := ⟨⟨h.1.1, by rw [e7]; exact h.1.2⟩, by rw [e]; exact h.2.1, fun j hj => by rw [e2]; exact h.2.2 j hj⟩
theorem CTp.w {x k : Nat} {v : Int32} {tp : Nat → Int32} {len : Nat} {M : Mem} (h : CTp x tp len M) (hk : ¬ k = 2 ∧ ¬ k = 7) : CTp x tp len (wi M (x + 1) k v) := h.cg (wi_sl (by omega)) (wi_rwo (by omega)) (wi_sl (by omega))
theorem CTp.at {x j : Nat} {tp : Nat → Int32} {len : Nat} {M : Mem} (h : CTp x tp len M) (hj : j < len) : f_X10_at (x + 1 + 1) 700 (Int32.ofNat j) M = some (tp j, M) := by
  have h7 := h.1
  rw [at_nat (by omega) (by decide)]
  have := h.2.2 j hj
  rw [← this]
theorem lop1_inl {α τ : Type} {fu : Nat} {b : α → Option (α ⊕ τ)} {x x' : α} (h : b x = some (.inl x')) : lop1 (fu + 1) b x = lop1 fu b x' := by
  simp only [lop1, h]
theorem lop1_inr {α τ : Type} {fu : Nat} {b : α → Option (α ⊕ τ)} {x : α} {t : τ} (h : b x = some (.inr t)) : lop1 (fu + 1) b x = some t := by
  simp only [lop1, h]
theorem cw_loop {x len : Nat} {tp : Nat → Int32} {kd : Int32} : ∀ (m p fu : Nat) (M : Mem), p + m = len → m < fu → CTp x tp len M → M.1 (x + 1) 3 = Int32.ofNat p → M.1 (x + 1) 5 = kd → ∃ pos M', lop1 fu (l_X6_advance_133 (x + 1) (fun M10 => some (.inr ((), M10)))) M = some (.inr ((), M')) ∧ Run (fun j => kindP (tp j) = kd) p pos len ∧ M'.1 (x + 1) 3 = Int32.ofNat pos ∧ (∀ b k, ¬ (b = x + 1 ∧ k = 3) → M'.1 b k = M.1 b k) ∧ M'.2 = M.2 := by
  intro m
  induction m with
  | zero =>
    intro p fu M hp hf hC h3 h5
    obtain ⟨fu, rfl⟩ : ∃ q, fu = q + 1 := ⟨fu - 1, by omega⟩
    have h7 := hC.1
    refine ⟨p, M, lop1_inr (Wp.eq ?_), Run.nil (by omega) (fun q => by omega), h3, fun _ _ _ => rfl, rfl⟩
    unfold l_X6_advance_133
    rw [h3, hC.2.1]
    exact Wp.ps ((i_le (by omega) (by omega)).mpr (by omega)) (Wp.ret rfl)
  | succ m ih =>
    intro p fu M hp hf hC h3 h5
    obtain ⟨fu, rfl⟩ : ∃ q, fu = q + 1 := ⟨fu - 1, by omega⟩
    have h7 := hC.1
    have hlt : ¬ Int32.ofNat len ≤ Int32.ofNat p := i64_lt (by omega) (by omega)
    by_cases g : kindP (tp p) = kd
    · have b1 : l_X6_advance_133 (x + 1) (fun M10 => some (.inr ((), M10))) M = some (.inl (wi M (x + 1) 3 (Int32.ofNat (p + 1)))) := by
        refine Wp.eq ?_
        unfold l_X6_advance_133
        rw [h3, hC.2.1]
        refine Wp.ng hlt (Wp.cl (hC.at (by omega)) (Wp.cl e_kindOf ?_))
        rw [h5]
        refine Wp.ps g (Wp.nam ?_)
        rw [h3, i_ad1]
        exact Wp.ret rfl
      obtain ⟨pos, M', r1, r2, r3, r4, r5⟩ := ih (p + 1) fu (wi M (x + 1) 3 (Int32.ofNat (p + 1))) (by omega) (by omega) (hC.w (by decide)) wi_hit (by rw [wi_sl (by decide)]; exact h5)
      refine ⟨pos, M', (lop1_inl b1).trans r1, Run.cons g r2, r3, fun b k hb => ?_, r5⟩
      rw [r4 b k hb]
      simp only [wi]
      rw [if_neg hb]
    · refine ⟨p, M, lop1_inr (Wp.eq ?_), Run.nil (by omega) (fun _ => g), h3, fun _ _ _ => rfl, rfl⟩
      unfold l_X6_advance_133
      rw [h3, hC.2.1]
      refine Wp.ng hlt (Wp.cl (hC.at (by omega)) (Wp.cl e_kindOf ?_))
      rw [h5]
      exact Wp.ng g (Wp.ret rfl)
/-- the class's state where a TOKEN stands -/
def CK (x : Nat) (tp : Nat → Int32) (len st pos : Nat) (kd : Int32) (M : Mem) : Prop := CTp x tp len M ∧ M.1 (x + 1) 3 = Int32.ofNat pos ∧ M.1 (x + 1) 4 = Int32.ofNat st ∧ M.1 (x + 1) 5 = kd
def fr345 (x : Nat) (M M' : Mem) : Prop := (∀ b k, ¬ (b = x + 1 ∧ (k = 3 ∨ k = 4 ∨ k = 5)) → M'.1 b k = M.1 b k) ∧ M'.2 = M.2
theorem adv_head {x p len : Nat} {tp : Nat → Int32} {M : Mem} (hC : CTp x tp len M) (h3 : M.1 (x + 1) 3 = Int32.ofNat p) (hp : p ≤ len) (hw : p < len → ¬ isWs (tp p)) : ∃ pos kd M', Wp (nm (wi M (x + 1) 4 (M.1 (x + 1) 3)) (fun M3 => if (M3.1 (x + 1) 3) < (M3.1 (x + 1) 2) then (bd (f_X10_at (x + 1 + 1) 700 (M3.1 (x + 1) 3) M3) (fun u4 M5 => bd (f_X6_kindOf u4 M5) (fun u6 M7 => nm (wi M7 (x + 1) 5 u6) (fun M8 => nm (wi M8 (x + 1) 3 ((M8.1 (x + 1) 3) + (1 : Int32))) (fun M9 => jn1 (fun M10 => some (.inr ((), M10))) (fun J178 => jn0 (fun _ => lop1 FU (l_X6_advance_133 (x + 1) J178) M9) (fun J133 => if (M9.1 (x + 1) 5) = (2 : Int32) then (J133 ()) else (if (M9.1 (x + 1) 5) = (3 : Int32) then (J133 ()) else (J178 M9))))))))) else (nm (wi M3 (x + 1) 5 (0 : Int32)) (fun M17 => some (.inr ((), M17)))))) (fun q => q = (.inr ((), M') : Mem ⊕ (Unit × Mem))) ∧ Tok tp len p p pos kd ∧ CK x tp len p pos kd M' ∧ fr345 x M M' := by
  have h7 := hC.1
  by_cases hl : p < len
  · generalize hM3 : wi M (x + 1) 4 (Int32.ofNat p) = M3
    have hC3 : CTp x tp len M3 := by rw [← hM3]; exact hC.w (by decide)
    have h33 : M3.1 (x + 1) 3 = Int32.ofNat p := by rw [← hM3, wi_sl (by decide)]; exact h3
    generalize hM9 : wi (wi M3 (x + 1) 5 (kindP (tp p))) (x + 1) 3 (Int32.ofNat (p + 1)) = M9
    have hC9 : CTp x tp len M9 := by rw [← hM9]; exact (hC3.w (by decide)).w (by decide)
    have h93 : M9.1 (x + 1) 3 = Int32.ofNat (p + 1) := by rw [← hM9, wi_hit]
    have h95 : M9.1 (x + 1) 5 = kindP (tp p) := by rw [← hM9, wi_sl (by decide), wi_hit]
    have h94 : M9.1 (x + 1) 4 = Int32.ofNat p := by rw [← hM9, wi_sl (by decide), wi_sl (by decide), ← hM3, wi_hit]
    have f9 : fr345 x M M9 := ⟨fun b k hb => by
      rw [← hM9, ← hM3]
      simp only [wi]
      rw [if_neg (by omega), if_neg (by omega), if_neg (by omega)], by rw [← hM9, ← hM3]; rfl⟩
    have pre : ∀ Q, Wp (jn1 (fun M10 => some (.inr ((), M10))) (fun J178 => jn0 (fun _ => lop1 FU (l_X6_advance_133 (x + 1) J178) M9) (fun J133 => if (M9.1 (x + 1) 5) = (2 : Int32) then (J133 ()) else (if (M9.1 (x + 1) 5) = (3 : Int32) then (J133 ()) else (J178 M9))))) Q → Wp (nm (wi M (x + 1) 4 (M.1 (x + 1) 3)) (fun M3 => if (M3.1 (x + 1) 3) < (M3.1 (x + 1) 2) then (bd (f_X10_at (x + 1 + 1) 700 (M3.1 (x + 1) 3) M3) (fun u4 M5 => bd (f_X6_kindOf u4 M5) (fun u6 M7 => nm (wi M7 (x + 1) 5 u6) (fun M8 => nm (wi M8 (x + 1) 3 ((M8.1 (x + 1) 3) + (1 : Int32))) (fun M9 => jn1 (fun M10 => some (.inr ((), M10))) (fun J178 => jn0 (fun _ => lop1 FU (l_X6_advance_133 (x + 1) J178) M9) (fun J133 => if (M9.1 (x + 1) 5) = (2 : Int32) then (J133 ()) else (if (M9.1 (x + 1) 5) = (3 : Int32) then (J133 ()) else (J178 M9))))))))) else (nm (wi M3 (x + 1) 5 (0 : Int32)) (fun M17 => some (.inr ((), M17)))))) Q := fun Q hQ => by
      rw [h3, hM3]
      refine Wp.nam ?_
      rw [h33, hC3.2.1]
      refine Wp.ps ((i_lt (by omega) (by omega)).mpr hl) (Wp.cl (hC3.at hl) (Wp.cl e_kindOf (Wp.nam ?_)))
      rw [wi_sl (show ¬ (3 : Nat) = 5 by decide), h33, i_ad1, hM9]
      exact Wp.nam hQ
    have hnw := hw hl
    by_cases hk : kindP (tp p) = 2 ∨ kindP (tp p) = 3
    · obtain ⟨pos, M', r1, r2, r3, r4, r5⟩ := cw_loop (kd := kindP (tp p)) (len - (p + 1)) (p + 1) FU M9 (by omega) (by unfold FU; omega) hC9 h93 h95
      refine ⟨pos, kindP (tp p), M', pre _ (Wp.j1 (Wp.j0 ?_)), ⟨Run.nil (by omega) (fun _ => hnw), Or.inr ⟨hl, rfl, Or.inl ⟨hk, r2⟩⟩⟩, ⟨hC9.cg (r4 _ _ (by omega)) (funext fun _ => r4 _ _ (by omega)) (r4 _ _ (by omega)), r3, by rw [r4 _ _ (by omega)]; exact h94, by rw [r4 _ _ (by omega)]; exact h95⟩, ⟨fun b k hb => by rw [r4 _ _ (by omega)]; exact f9.1 b k hb, by rw [r5]; exact f9.2⟩⟩
      rw [h95]
      rcases hk with g | g
      · exact Wp.ps g ⟨_, r1, rfl⟩
      · exact Wp.ng (by rw [g]; decide) (Wp.ps g ⟨_, r1, rfl⟩)
    · refine ⟨p + 1, kindP (tp p), M9, pre _ (Wp.j1 (Wp.j0 ?_)), ⟨Run.nil (by omega) (fun _ => hnw), Or.inr ⟨hl, rfl, Or.inr ⟨hk, rfl⟩⟩⟩, ⟨hC9, h93, h94, h95⟩, f9⟩
      rw [h95]
      exact Wp.ng (fun g => hk (Or.inl g)) (Wp.ng (fun g => hk (Or.inr g)) (Wp.ret rfl))
  · refine ⟨p, 0, wi (wi M (x + 1) 4 (Int32.ofNat p)) (x + 1) 5 0, ?_, ⟨Run.nil (by omega) (fun g => absurd g hl), Or.inl ⟨by omega, rfl, rfl⟩⟩, ⟨(hC.w (by decide)).w (by decide), by rw [wi_sl (by decide), wi_sl (by decide)]; exact h3, by rw [wi_sl (by decide), wi_hit], wi_hit⟩, ⟨fun b k hb => by
      simp only [wi]
      rw [if_neg (by omega), if_neg (by omega)], rfl⟩⟩
    rw [h3]
    refine Wp.nam ?_
    rw [wi_sl (show ¬ (3 : Nat) = 4 by decide), wi_sl (show ¬ (2 : Nat) = 4 by decide), h3, hC.2.1]
    exact Wp.ng (fun g => hl ((i_lt (by omega) (by omega)).mp g)) (Wp.nam (Wp.ret rfl))
theorem adv_loop {x len : Nat} {tp : Nat → Int32} : ∀ (m p fu : Nat) (M : Mem), p + m = len → m < fu → CTp x tp len M → M.1 (x + 1) 3 = Int32.ofNat p → ∃ st pos kd M', lop1 fu (l_X6_advance_8 (x + 1)) M = some ((), M') ∧ Tok tp len p st pos kd ∧ CK x tp len st pos kd M' ∧ fr345 x M M' := by
  intro m
  induction m with
  | zero =>
    intro p fu M hp hf hC h3
    obtain ⟨fu, rfl⟩ : ∃ q, fu = q + 1 := ⟨fu - 1, by omega⟩
    have h7 := hC.1
    obtain ⟨pos, kd, M', r1, r2⟩ := adv_head hC h3 (by omega) (fun g => by omega)
    refine ⟨p, pos, kd, M', lop1_inr (Wp.eq ?_), r2⟩
    unfold l_X6_advance_8
    refine Wp.j1 (Wp.ps ?_ r1)
    rw [h3, hC.2.1]
    exact (i_le (by omega) (by omega)).mpr (by omega)
  | succ m ih =>
    intro p fu M hp hf hC h3
    obtain ⟨fu, rfl⟩ : ∃ q, fu = q + 1 := ⟨fu - 1, by omega⟩
    have h7 := hC.1
    have hlt : ¬ M.1 (x + 1) 2 ≤ M.1 (x + 1) 3 := by
      rw [h3, hC.2.1]
      exact i64_lt (by omega) (by omega)
    have hat : f_X10_at (x + 1 + 1) 700 (M.1 (x + 1) 3) M = some (tp p, M) := by
      rw [h3]
      exact hC.at (by omega)
    by_cases g : isWs (tp p)
    · have b1 : l_X6_advance_8 (x + 1) M = some (.inl (wi M (x + 1) 3 (Int32.ofNat (p + 1)))) := by
        refine Wp.eq ?_
        unfold l_X6_advance_8
        refine Wp.j1 (Wp.ng hlt (Wp.cl hat (Wp.j1 ?_)))
        have fin : Wp (nm (wi M (x + 1) 3 ((M.1 (x + 1) 3) + (1 : Int32))) (fun M21 => some (.inl M21))) (fun q => q = (.inl (wi M (x + 1) 3 (Int32.ofNat (p + 1))) : Mem ⊕ (Unit × Mem))) := by
          refine Wp.nam ?_
          rw [h3, i_ad1]
          exact Wp.ret rfl
        by_cases g2 : tp p = 32
        · exact Wp.ps g2 fin
        · exact Wp.ng g2 (Wp.cl hat (Wp.ps (g.resolve_left g2) fin))
      obtain ⟨st, pos, kd, M', r1, r2, r3, r4⟩ := ih (p + 1) fu (wi M (x + 1) 3 (Int32.ofNat (p + 1))) (by omega) (by omega) (hC.w (by decide)) wi_hit
      refine ⟨st, pos, kd, M', (lop1_inl b1).trans r1, ⟨Run.cons g r2.1, r2.2⟩, r3, ⟨fun b k hb => ?_, r4.2⟩⟩
      rw [r4.1 b k hb]
      simp only [wi]
      rw [if_neg (by omega)]
    · obtain ⟨pos, kd, M', r1, r2⟩ := adv_head hC h3 (by omega) (fun _ => g)
      refine ⟨p, pos, kd, M', lop1_inr (Wp.eq ?_), r2⟩
      unfold l_X6_advance_8
      exact Wp.j1 (Wp.ng hlt (Wp.cl hat (Wp.j1 (Wp.ng (fun q => g (Or.inl q)) (Wp.cl hat (Wp.ng (fun q => g (Or.inr q)) r1))))))
theorem e_adv {x p len : Nat} {tp : Nat → Int32} {M : Mem} (hC : CTp x tp len M) (hp : p ≤ len) (h3 : M.1 (x + 1) 3 = Int32.ofNat p) (h6 : M.1 (x + 1) 6 = 0) : ∃ st pos kd M', f_X6_advance (x + 1) M = some ((), M') ∧ Tok tp len p st pos kd ∧ CK x tp len st pos kd M' ∧ fr345 x M M' := by
  have h7 := hC.1
  obtain ⟨st, pos, kd, M', r1, r2⟩ := adv_loop (len - p) p FU M (by omega) (by unfold FU; omega) hC h3
  refine ⟨st, pos, kd, M', ?_, r2⟩
  unfold f_X6_advance
  rw [if_pos h6]
  exact r1
