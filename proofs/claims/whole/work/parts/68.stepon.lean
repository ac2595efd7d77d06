/-! TOKENs: the model's stepOn -/
theorem kind2 {c : Int32} : kindP c = 2 ↔ isLt c := by
  unfold kindP
  by_cases h1 : isLt c
  · rw [if_pos h1]; exact ⟨fun _ => h1, fun _ => rfl⟩
  · rw [if_neg h1]
    refine ⟨fun h => ?_, fun h => absurd h h1⟩
    by_cases h2 : isDg c
    · rw [if_pos h2] at h; exact absurd h (by decide)
    · rw [if_neg h2] at h
      by_cases h3 : isMk c
      · rw [if_pos h3] at h
        subst h
        exact absurd h3 (by decide)
      · rw [if_neg h3] at h; exact absurd h (by decide)
theorem kind3 {c : Int32} : kindP c = 3 ↔ isDg c := by
  unfold kindP
  by_cases h1 : isLt c
  · rw [if_pos h1]
    refine ⟨fun h => absurd h (by decide), fun h => ?_⟩
    have a := nlt_le.mp h1.1
    have b := nlt_le.mp h.2
    have a' := Int32.le_iff_toInt_le.mp a
    have b' := Int32.le_iff_toInt_le.mp b
    have e1 : (97 : Int32).toInt = 97 := rfl
    have e2 : (57 : Int32).toInt = 57 := rfl
    omega
  · rw [if_neg h1]
    by_cases h2 : isDg c
    · rw [if_pos h2]; exact ⟨fun _ => h2, fun _ => rfl⟩
    · rw [if_neg h2]
      refine ⟨fun h => ?_, fun h => absurd h h2⟩
      by_cases h3 : isMk c
      · rw [if_pos h3] at h
        subst h
        exact absurd h3 (by decide)
      · rw [if_neg h3] at h; exact absurd h (by decide)
theorem Run.cg {P Q : Nat → Prop} {p pos len : Nat} (h : Run P p pos len) (e : ∀ j, P j ↔ Q j) : Run Q p pos len := ⟨h.1, h.2.1, fun j a b => (e j).mp (h.2.2.1 j a b), fun g q => h.2.2.2 g ((e pos).mpr q)⟩
theorem Run.tail {P : Nat → Prop} {p pos len : Nat} (h : Run P p pos len) (hp : p < len) (h0 : P p) : Run P (p + 1) pos len := by
  obtain ⟨a1, a2, a3, a4⟩ := h
  have : ¬ pos = p := fun e => by subst e; exact a4 hp h0
  exact ⟨by omega, a2, fun j x y => a3 j (by omega) y, a4⟩
def MTp (t : Nat) (tp : Nat → Int32) (len : Nat) (N : Mem) : Prop := (len ≤ 700 ∧ ∀ j, j < len → 0 ≤ (tp j).toInt ∧ (tp j).toInt ≤ 255) ∧ N.1 t 14 = Int32.ofNat len ∧ ∀ j, j < len → N.1 (t + 9) j = tp j
theorem MTp.cg {t : Nat} {tp : Nat → Int32} {len : Nat} {N N' : Mem} (h : MTp t tp len N) (e : N'.1 t 14 = N.1 t 14) (e2 : N'.1 (t + 9) = N.1 (t + 9)) : MTp t tp len N' := ⟨h.1, by rw [e]; exact h.2.1, fun j hj => by rw [e2]; exact h.2.2 j hj⟩
theorem MTp.w {t k : Nat} {v : Int32} {tp : Nat → Int32} {len : Nat} {N : Mem} (h : MTp t tp len N) (hk : ¬ k = 14) : MTp t tp len (wi N t k v) := h.cg (wi_sl (by omega)) (wi_rwo (by omega))
/-- the byte there; -1 behind them all -/
def byt (tp : Nat → Int32) (len j : Nat) : Int32 := if j < len then tp j else -1
theorem e_byteAt {t len j : Nat} {tp : Nat → Int32} {N : Mem} (h : MTp t tp len N) (hj : j ≤ len) : f_X11_byteAt t (Int32.ofNat j) N = some (byt tp len j, N) := by
  have h7 := h.1.1
  refine Wp.eq ?_
  unfold f_X11_byteAt byt
  rw [h.2.1]
  by_cases g : j < len
  · refine Wp.j1 (Wp.ng (i64_lt (by omega) g) (Wp.gi (i_rng (by omega) (by decide)) ?_))
    rw [i_nn (by omega), h.2.2 j g, if_pos g]
    exact Wp.ret rfl
  · refine Wp.j1 (Wp.ps ((i_le (by omega) (by omega)).mpr (by omega)) (Wp.ret ?_))
    rw [if_neg g]
theorem e_isLetter {c : Int32} {N : Mem} : f_X11_isLetter c N = some (if isLt c then 1 else 0, N) := by
  refine Wp.eq ?_
  unfold f_X11_isLetter
  by_cases h : isLt c
  · rw [if_pos h]
    exact Wp.j1 (Wp.j0 (Wp.ng h.1 (Wp.ng h.2 (Wp.gp (Or.inr rfl) (Wp.ret rfl)))))
  · rw [if_neg h]
    refine Wp.j1 (Wp.j0 (Wp.br (fun _ => Wp.gp (Or.inl rfl) (Wp.ret rfl)) (fun g => Wp.ps ?_ (Wp.gp (Or.inl rfl) (Wp.ret rfl)))))
    exact Classical.byContradiction fun q => h ⟨g, q⟩
theorem e_isDigit {c : Int32} {N : Mem} : f_X11_isDigit c N = some (if isDg c then 1 else 0, N) := by
  refine Wp.eq ?_
  unfold f_X11_isDigit
  by_cases h : isDg c
  · rw [if_pos h]
    exact Wp.j1 (Wp.j0 (Wp.ng h.1 (Wp.ng h.2 (Wp.gp (Or.inr rfl) (Wp.ret rfl)))))
  · rw [if_neg h]
    refine Wp.j1 (Wp.j0 (Wp.br (fun _ => Wp.gp (Or.inl rfl) (Wp.ret rfl)) (fun g => Wp.ps ?_ (Wp.gp (Or.inl rfl) (Wp.ret rfl)))))
    exact Classical.byContradiction fun q => h ⟨g, q⟩
theorem e_isMark {c : Int32} {N : Mem} : f_X11_isMark c N = some (if isMk c then 1 else 0, N) := by
  have one : ∀ b : Prop, b → isMk c → Wp (gdp ((1 : Int32) = 0 ∨ (1 : Int32) = 1) (some ((1 : Int32), N))) (fun q => q = (if isMk c then 1 else 0, N)) := fun _ _ h => Wp.gp (Or.inr rfl) (Wp.ret (by rw [if_pos h]))
  refine Wp.eq ?_
  unfold f_X11_isMark
  refine Wp.j1 (Wp.j0 ?_)
  refine Wp.br (fun g => one _ g (Or.inl g)) (fun g1 => ?_)
  refine Wp.br (fun g => one _ g (Or.inr (Or.inl g))) (fun g2 => ?_)
  refine Wp.br (fun g => one _ g (Or.inr (Or.inr (Or.inl g)))) (fun g3 => ?_)
  refine Wp.br (fun g => one _ g (Or.inr (Or.inr (Or.inr (Or.inl g))))) (fun g4 => ?_)
  refine Wp.br (fun g => one _ g (Or.inr (Or.inr (Or.inr (Or.inr (Or.inl g)))))) (fun g5 => ?_)
  refine Wp.br (fun g => one _ g (Or.inr (Or.inr (Or.inr (Or.inr (Or.inr (Or.inl g))))))) (fun g6 => ?_)
  refine Wp.br (fun g => one _ g (Or.inr (Or.inr (Or.inr (Or.inr (Or.inr (Or.inr (Or.inl g)))))))) (fun g7 => ?_)
  refine Wp.br (fun g => one _ g (Or.inr (Or.inr (Or.inr (Or.inr (Or.inr (Or.inr (Or.inr (Or.inl g))))))))) (fun g8 => ?_)
  refine Wp.br (fun g => one _ g (Or.inr (Or.inr (Or.inr (Or.inr (Or.inr (Or.inr (Or.inr (Or.inr g))))))))) (fun g9 => ?_)
  refine Wp.gp (Or.inl rfl) (Wp.ret ?_)
  rw [if_neg]
  intro h
  rcases h with e | e | e | e | e | e | e | e | e
  · exact g1 e
  · exact g2 e
  · exact g3 e
  · exact g4 e
  · exact g5 e
  · exact g6 e
  · exact g7 e
  · exact g8 e
  · exact g9 e
/-- a number's worth, by its first k figures -/
def dv (tp : Nat → Int32) (st : Nat) : Nat → Int32
  | 0 => 0
  | k + 1 => imin 100000 (10 * dv tp st k + tp (st + k) - 48)
def J2 (t : Nat) : Mem → Option (Mem ⊕ (Unit × Mem)) := fun M11 => nm (wi M11 t 18 (M11.1 t 13)) (fun M12 => some (.inr ((), M12)))
def frM5 (t : Nat) (N N' : Mem) : Prop := (∀ b k, ¬ (b = t ∧ (k = 13 ∨ k = 15 ∨ k = 16 ∨ k = 17 ∨ k = 18)) → N'.1 b k = N.1 b k) ∧ N'.2 = N.2
theorem frM5.tr {t : Nat} {N N1 N2 : Mem} (h1 : frM5 t N N1) (h2 : frM5 t N1 N2) : frM5 t N N2 := ⟨fun b k h => (h2.1 b k h).trans (h1.1 b k h), h2.2.trans h1.2⟩
theorem frM5.w {t k : Nat} {v : Int32} {N : Mem} (hk : k = 13 ∨ k = 15 ∨ k = 16 ∨ k = 17 ∨ k = 18) : frM5 t N (wi N t k v) := ⟨fun b j hb => by
  simp only [wi]
  rw [if_neg (by omega)], rfl⟩
theorem let_loop {t len : Nat} {tp : Nat → Int32} : ∀ (m p fu : Nat) (N : Mem), p + m = len → m < fu → MTp t tp len N → N.1 t 13 = Int32.ofNat p → ∃ pos N', lop1 fu (l_X11_stepOn_76 t (J2 t)) N = some (.inr ((), N')) ∧ Run (fun j => isLt (tp j)) p pos len ∧ N'.1 t 13 = Int32.ofNat pos ∧ N'.1 t 18 = Int32.ofNat pos ∧ N'.1 t 15 = 1 ∧ (∀ b k, ¬ (b = t ∧ (k = 13 ∨ k = 15 ∨ k = 18)) → N'.1 b k = N.1 b k) ∧ N'.2 = N.2 := by
  have stop : ∀ (p fu : Nat) (N : Mem), p ≤ len → MTp t tp len N → N.1 t 13 = Int32.ofNat p → ¬ isLt (byt tp len p) → ∃ pos N', lop1 (fu + 1) (l_X11_stepOn_76 t (J2 t)) N = some (.inr ((), N')) ∧ Run (fun j => isLt (tp j)) p pos len ∧ N'.1 t 13 = Int32.ofNat pos ∧ N'.1 t 18 = Int32.ofNat pos ∧ N'.1 t 15 = 1 ∧ (∀ b k, ¬ (b = t ∧ (k = 13 ∨ k = 15 ∨ k = 18)) → N'.1 b k = N.1 b k) ∧ N'.2 = N.2 := fun p fu N hp hC h3 hl => by
    refine ⟨p, wi (wi N t 15 1) t 18 (Int32.ofNat p), lop1_inr (Wp.eq ?_), Run.nil hp (fun g q => hl ?_), by rw [wi_sl (by decide), wi_sl (by decide)]; exact h3, wi_hit, by rw [wi_sl (by decide), wi_hit], fun b k hb => ?_, rfl⟩
    · unfold l_X11_stepOn_76
      rw [h3]
      refine Wp.cl (e_byteAt hC hp) (Wp.cl e_isLetter ?_)
      rw [if_neg hl]
      refine Wp.ps rfl (Wp.nam ?_)
      unfold J2 nm
      rw [wi_sl (show ¬ (13 : Nat) = 15 by decide), h3]
      exact Wp.ret rfl
    · unfold byt
      rw [if_pos g]
      exact q
    · simp only [wi]
      rw [if_neg (by omega), if_neg (by omega)]
  intro m
  induction m with
  | zero =>
    intro p fu N hp hf hC h3
    obtain ⟨fu, rfl⟩ : ∃ q, fu = q + 1 := ⟨fu - 1, by omega⟩
    refine stop p fu N (by omega) hC h3 (fun q => ?_)
    unfold byt at q
    rw [if_neg (by omega)] at q
    exact absurd q (by decide)
  | succ m ih =>
    intro p fu N hp hf hC h3
    obtain ⟨fu, rfl⟩ : ∃ q, fu = q + 1 := ⟨fu - 1, by omega⟩
    by_cases hl : isLt (byt tp len p)
    · have b1 : l_X11_stepOn_76 t (J2 t) N = some (.inl (wi N t 13 (Int32.ofNat (p + 1)))) := by
        refine Wp.eq ?_
        unfold l_X11_stepOn_76
        rw [h3]
        refine Wp.cl (e_byteAt hC (by omega)) (Wp.cl e_isLetter ?_)
        rw [if_pos hl]
        refine Wp.ng (by decide) (Wp.nam ?_)
        rw [h3, i_ad1]
        exact Wp.ret rfl
      obtain ⟨pos, N', r1, r2, r3, r4, r5, r6, r7⟩ := ih (p + 1) fu (wi N t 13 (Int32.ofNat (p + 1))) (by omega) (by omega) (hC.w (by decide)) wi_hit
      refine ⟨pos, N', (lop1_inl b1).trans r1, Run.cons ?_ r2, r3, r4, r5, fun b k hb => ?_, r7⟩
      · unfold byt at hl
        rw [if_pos (by omega)] at hl
        exact hl
      · rw [r6 b k hb]
        simp only [wi]
        rw [if_neg (by omega)]
    · exact stop p fu N (by omega) hC h3 hl
theorem dig_loop {t len st : Nat} {tp : Nat → Int32} : ∀ (m p fu : Nat) (N : Mem), p + m = len → m < fu → st ≤ p → MTp t tp len N → N.1 t 13 = Int32.ofNat p → N.1 t 16 = dv tp st (p - st) → ∃ pos N', lop1 fu (l_X11_stepOn_123 t (J2 t)) N = some (.inr ((), N')) ∧ Run (fun j => isDg (tp j)) p pos len ∧ N'.1 t 13 = Int32.ofNat pos ∧ N'.1 t 18 = Int32.ofNat pos ∧ N'.1 t 15 = 2 ∧ N'.1 t 16 = dv tp st (pos - st) ∧ (∀ b k, ¬ (b = t ∧ (k = 13 ∨ k = 15 ∨ k = 16 ∨ k = 18)) → N'.1 b k = N.1 b k) ∧ N'.2 = N.2 := by
  have stop : ∀ (p fu : Nat) (N : Mem), p ≤ len → MTp t tp len N → N.1 t 13 = Int32.ofNat p → N.1 t 16 = dv tp st (p - st) → ¬ isDg (byt tp len p) → ∃ pos N', lop1 (fu + 1) (l_X11_stepOn_123 t (J2 t)) N = some (.inr ((), N')) ∧ Run (fun j => isDg (tp j)) p pos len ∧ N'.1 t 13 = Int32.ofNat pos ∧ N'.1 t 18 = Int32.ofNat pos ∧ N'.1 t 15 = 2 ∧ N'.1 t 16 = dv tp st (pos - st) ∧ (∀ b k, ¬ (b = t ∧ (k = 13 ∨ k = 15 ∨ k = 16 ∨ k = 18)) → N'.1 b k = N.1 b k) ∧ N'.2 = N.2 := fun p fu N hp hC h3 h16 hl => by
    refine ⟨p, wi (wi N t 15 2) t 18 (Int32.ofNat p), lop1_inr (Wp.eq ?_), Run.nil hp (fun g q => hl ?_), by rw [wi_sl (by decide), wi_sl (by decide)]; exact h3, wi_hit, by rw [wi_sl (by decide), wi_hit], by rw [wi_sl (by decide), wi_sl (by decide)]; exact h16, fun b k hb => ?_, rfl⟩
    · unfold l_X11_stepOn_123
      rw [h3]
      refine Wp.cl (e_byteAt hC hp) (Wp.cl e_isDigit ?_)
      rw [if_neg hl]
      refine Wp.ps rfl (Wp.nam ?_)
      unfold J2 nm
      rw [wi_sl (show ¬ (13 : Nat) = 15 by decide), h3]
      exact Wp.ret rfl
    · unfold byt
      rw [if_pos g]
      exact q
    · simp only [wi]
      rw [if_neg (by omega), if_neg (by omega)]
  intro m
  induction m with
  | zero =>
    intro p fu N hp hf hs hC h3 h16
    obtain ⟨fu, rfl⟩ : ∃ q, fu = q + 1 := ⟨fu - 1, by omega⟩
    refine stop p fu N (by omega) hC h3 h16 (fun q => ?_)
    unfold byt at q
    rw [if_neg (by omega)] at q
    exact absurd q (by decide)
  | succ m ih =>
    intro p fu N hp hf hs hC h3 h16
    obtain ⟨fu, rfl⟩ : ∃ q, fu = q + 1 := ⟨fu - 1, by omega⟩
    by_cases hl : isDg (byt tp len p)
    · have hbt : byt tp len p = tp p := by unfold byt; rw [if_pos (by omega)]
      have hdv : imin 100000 (10 * dv tp st (p - st) + tp p - 48) = dv tp st (p + 1 - st) := by
        have e : p + 1 - st = (p - st) + 1 := by omega
        rw [e]
        have e2 : st + (p - st) = p := by omega
        show _ = imin 100000 (10 * dv tp st (p - st) + tp (st + (p - st)) - 48)
        rw [e2]
      have b1 : l_X11_stepOn_123 t (J2 t) N = some (.inl (wi (wi N t 16 (dv tp st (p + 1 - st))) t 13 (Int32.ofNat (p + 1)))) := by
        refine Wp.eq ?_
        unfold l_X11_stepOn_123
        rw [h3]
        refine Wp.cl (e_byteAt hC (by omega)) (Wp.cl e_isDigit ?_)
        rw [if_pos hl]
        refine Wp.ng (by decide) ?_
        rw [h3]
        refine Wp.cl (e_byteAt hC (by omega)) ?_
        rw [hbt, h16]
        refine Wp.cl (e_min _ _ _) ?_
        rw [hdv]
        refine Wp.nam (Wp.nam ?_)
        rw [wi_sl (show ¬ (13 : Nat) = 16 by decide), h3, i_ad1]
        exact Wp.ret rfl
      obtain ⟨pos, N', r1, r2, r3, r4, r5, r6, r7, r8⟩ := ih (p + 1) fu (wi (wi N t 16 (dv tp st (p + 1 - st))) t 13 (Int32.ofNat (p + 1))) (by omega) (by omega) (by omega) ((hC.w (by decide)).w (by decide)) wi_hit (by rw [wi_sl (by decide), wi_hit])
      refine ⟨pos, N', (lop1_inl b1).trans r1, Run.cons ?_ r2, r3, r4, r5, r6, fun b k hb => ?_, r8⟩
      · rw [← hbt]
        exact hl
      · rw [r7 b k hb]
        simp only [wi]
        rw [if_neg (by omega), if_neg (by omega)]
    · exact stop p fu N (by omega) hC h3 h16 hl
def mdP (kd : Int32) : Int32 := if kd = 0 then 0 else if kd = 2 then 1 else if kd = 3 then 2 else if kd = 1 then 4 else 3
/-- the model's state where a TOKEN stands -/
def MK (t : Nat) (tp : Nat → Int32) (len st pos : Nat) (kd : Int32) (N : Mem) : Prop := MTp t tp len N ∧ N.1 t 13 = Int32.ofNat pos ∧ N.1 t 17 = Int32.ofNat st ∧ N.1 t 18 = Int32.ofNat pos ∧ N.1 t 15 = mdP kd ∧ (kd = 3 → N.1 t 16 = dv tp st (pos - st))
theorem step_tail {t p len : Nat} {tp : Nat → Int32} {N : Mem} (hC : MTp t tp len N) (h3 : N.1 t 13 = Int32.ofNat p) (h17 : N.1 t 17 = Int32.ofNat p) (hp : p ≤ len) (hw : p < len → ¬ isWs (tp p)) : ∃ pos kd N', Wp (jn1 (J2 t) (fun J212 => if byt tp len p = (-1 : Int32) then (nm (wi N t 15 (0 : Int32)) (fun M42 => J212 M42)) else (bd (f_X11_isLetter (byt tp len p) N) (fun u13 M14 => if u13 = 0 then (bd (f_X11_isDigit (byt tp len p) M14) (fun u15 M16 => if u15 = 0 then (nm (wi M16 t 13 ((M16.1 t 13) + (1 : Int32))) (fun M17 => bd (f_X11_isMark (byt tp len p) M17) (fun u18 M19 => jn1 (fun z20 => nm (wi M19 t 15 z20) (fun M21 => J212 M21)) (fun J209 => if u18 = 0 then (J209 (4 : Int32)) else (J209 (3 : Int32)))))) else (nm (wi M16 t 16 (0 : Int32)) (fun M22 => lop1 FU (l_X11_stepOn_123 t J212) M22)))) else (lop1 FU (l_X11_stepOn_76 t J212) M14))))) (fun q => q = (.inr ((), N') : Mem ⊕ (Unit × Mem))) ∧ Tok tp len p p pos kd ∧ MK t tp len p pos kd N' ∧ frM5 t N N' := by
  have h7 := hC.1.1
  by_cases hl : p < len
  · have hnw := hw hl
    have hbt : byt tp len p = tp p := by unfold byt; rw [if_pos hl]
    have hb := hC.1.2 p hl
    have hm1 : ¬ tp p = -1 := fun e => by
      rw [e] at hb
      exact absurd hb.1 (by decide)
    rw [hbt]
    by_cases hL : isLt (tp p)
    · obtain ⟨pos, N', r1, r2, r3, r4, r5, r6, r7⟩ := let_loop (len - p) p FU N (by omega) (by unfold FU; omega) hC h3
      have hk := kind2.mpr hL
      refine ⟨pos, 2, N', Wp.j1 (Wp.ng hm1 (Wp.cl e_isLetter ?_)), ⟨Run.nil (by omega) (fun _ => hnw), Or.inr ⟨hl, hk.symm, Or.inl ⟨Or.inl rfl, (r2.tail hl hL).cg (fun j => kind2.symm)⟩⟩⟩, ⟨hC.cg (r6 _ _ (by omega)) (funext fun _ => r6 _ _ (by omega)), r3, by rw [r6 _ _ (by omega)]; exact h17, r4, r5, fun e => absurd e (by decide)⟩, ⟨fun b k hb => r6 _ _ (by omega), r7⟩⟩
      rw [if_pos hL]
      exact Wp.ng (by decide) ⟨_, r1, rfl⟩
    · by_cases hD : isDg (tp p)
      · have hC' : MTp t tp len (wi N t 16 0) := hC.w (by decide)
        obtain ⟨pos, N', r1, r2, r3, r4, r5, r6, r7, r8⟩ := dig_loop (st := p) (len - p) p FU (wi N t 16 0) (by omega) (by unfold FU; omega) (Nat.le_refl _) hC' (by rw [wi_sl (by decide)]; exact h3) (by rw [wi_hit, Nat.sub_self]; rfl)
        have hk := kind3.mpr hD
        have r7' : ∀ b k, ¬ (b = t ∧ (k = 13 ∨ k = 15 ∨ k = 16 ∨ k = 18)) → N'.1 b k = N.1 b k := fun b k hb => by
          rw [r7 b k hb]
          simp only [wi]
          rw [if_neg (by omega)]
        refine ⟨pos, 3, N', Wp.j1 (Wp.ng hm1 (Wp.cl e_isLetter ?_)), ⟨Run.nil (by omega) (fun _ => hnw), Or.inr ⟨hl, hk.symm, Or.inl ⟨Or.inr rfl, (r2.tail hl hD).cg (fun j => kind3.symm)⟩⟩⟩, ⟨hC.cg (r7' _ _ (by omega)) (funext fun _ => r7' _ _ (by omega)), r3, by rw [r7' _ _ (by omega)]; exact h17, r4, r5, fun _ => r6⟩, ⟨fun b k hb => r7' _ _ (by omega), r8⟩⟩
        rw [if_neg hL]
        refine Wp.ps rfl (Wp.cl e_isDigit ?_)
        rw [if_pos hD]
        exact Wp.ng (by decide) (Wp.nam ⟨_, r1, rfl⟩)
      · have hk : kindP (tp p) = if isMk (tp p) then tp p else 1 := by
          unfold kindP
          rw [if_neg hL, if_neg hD]
        have hn2 : ¬ (kindP (tp p) = 2 ∨ kindP (tp p) = 3) := fun q => q.elim (fun e => hL (kind2.mp e)) (fun e => hD (kind3.mp e))
        have hmd : (if isMk (tp p) then (3 : Int32) else 4) = mdP (kindP (tp p)) := by
          rw [hk]
          by_cases g : isMk (tp p)
          · rw [if_pos g, if_pos g]
            unfold mdP
            rcases g with e | e | e | e | e | e | e | e | e <;> rw [e] <;> decide
          · rw [if_neg g, if_neg g]
            rfl
        have fin : ∀ z N', z = mdP (kindP (tp p)) → N' = wi (wi (wi N t 13 (Int32.ofNat (p + 1))) t 15 (mdP (kindP (tp p)))) t 18 (Int32.ofNat (p + 1)) → Wp (nm (wi (wi N t 13 (Int32.ofNat (p + 1))) t 15 z) (fun M21 => J2 t M21)) (fun q => q = (.inr ((), N') : Mem ⊕ (Unit × Mem))) := fun z N' hz hN => by
          subst hz
          refine Wp.nam ?_
          unfold J2
          refine Wp.nam ?_
          rw [wi_sl (show ¬ (13 : Nat) = 15 by decide), wi_hit, hN]
          exact Wp.ret rfl
        refine ⟨p + 1, kindP (tp p), wi (wi (wi N t 13 (Int32.ofNat (p + 1))) t 15 (mdP (kindP (tp p)))) t 18 (Int32.ofNat (p + 1)), Wp.j1 (Wp.ng hm1 (Wp.cl e_isLetter ?_)), ⟨Run.nil (by omega) (fun _ => hnw), Or.inr ⟨hl, rfl, Or.inr ⟨hn2, rfl⟩⟩⟩, ⟨((hC.w (by decide)).w (by decide)).w (by decide), by rw [wi_sl (by decide), wi_sl (by decide), wi_hit], by rw [wi_sl (by decide), wi_sl (by decide), wi_sl (by decide)]; exact h17, wi_hit, by rw [wi_sl (by decide), wi_hit], fun e => absurd (Or.inr e) hn2⟩, ((frM5.w (by omega)).tr (frM5.w (by omega))).tr (frM5.w (by omega))⟩
        rw [if_neg hL]
        refine Wp.ps rfl (Wp.cl e_isDigit ?_)
        rw [if_neg hD, h3, i_ad1]
        refine Wp.ps rfl (Wp.nam (Wp.cl e_isMark ?_))
        by_cases g : isMk (tp p)
        · rw [if_pos g] at hmd ⊢
          exact Wp.j1 (Wp.ng (by decide) (fin _ _ hmd rfl))
        · rw [if_neg g] at hmd ⊢
          exact Wp.j1 (Wp.ps rfl (fin _ _ hmd rfl))
  · have hbt : byt tp len p = -1 := by unfold byt; rw [if_neg hl]
    refine ⟨p, 0, wi (wi N t 15 0) t 18 (Int32.ofNat p), Wp.j1 ?_, ⟨Run.nil (by omega) (fun g => absurd g hl), Or.inl ⟨by omega, rfl, rfl⟩⟩, ⟨(hC.w (by decide)).w (by decide), by rw [wi_sl (by decide), wi_sl (by decide)]; exact h3, by rw [wi_sl (by decide), wi_sl (by decide)]; exact h17, wi_hit, by rw [wi_sl (by decide), wi_hit]; rfl, fun e => absurd e (by decide)⟩, (frM5.w (by omega)).tr (frM5.w (by omega))⟩
    rw [hbt]
    refine Wp.ps rfl (Wp.nam ?_)
    unfold J2
    refine Wp.nam ?_
    rw [wi_sl (show ¬ (13 : Nat) = 15 by decide), h3]
    exact Wp.ret rfl
theorem step_loop {t len : Nat} {tp : Nat → Int32} : ∀ (m p fu : Nat) (N : Mem), p + m = len → m < fu → MTp t tp len N → N.1 t 13 = Int32.ofNat p → ∃ st pos kd N', lop1 fu (l_X11_stepOn_0 t) N = some ((), N') ∧ Tok tp len p st pos kd ∧ MK t tp len st pos kd N' ∧ frM5 t N N' := by
  have stop : ∀ (p fu : Nat) (N : Mem), p ≤ len → MTp t tp len N → N.1 t 13 = Int32.ofNat p → (p < len → ¬ isWs (tp p)) → ∃ st pos kd N', lop1 (fu + 1) (l_X11_stepOn_0 t) N = some ((), N') ∧ Tok tp len p st pos kd ∧ MK t tp len st pos kd N' ∧ frM5 t N N' := fun p fu N hp hC h3 hw => by
    have hC8 : MTp t tp len (wi N t 17 (Int32.ofNat p)) := hC.w (by decide)
    have h83 : (wi N t 17 (Int32.ofNat p)).1 t 13 = Int32.ofNat p := by rw [wi_sl (by decide)]; exact h3
    obtain ⟨pos, kd, N', r1, r2, r3, r4⟩ := step_tail hC8 h83 wi_hit hp hw
    refine ⟨p, pos, kd, N', lop1_inr (Wp.eq ?_), r2, r3, (frM5.w (by omega)).tr r4⟩
    unfold l_X11_stepOn_0
    rw [h3]
    have n32 : ¬ byt tp len p = 32 := fun e => by
      unfold byt at e
      by_cases g : p < len
      · rw [if_pos g] at e; exact hw g (Or.inl e)
      · rw [if_neg g] at e; exact absurd e (by decide)
    have n10 : ¬ byt tp len p = 10 := fun e => by
      unfold byt at e
      by_cases g : p < len
      · rw [if_pos g] at e; exact hw g (Or.inr e)
      · rw [if_neg g] at e; exact absurd e (by decide)
    refine Wp.cl (e_byteAt hC hp) (Wp.j1 (Wp.ng n32 ?_))
    rw [h3]
    refine Wp.cl (e_byteAt hC hp) (Wp.ng n10 ?_)
    rw [h3]
    refine Wp.nam ?_
    rw [h83]
    exact Wp.cl (e_byteAt hC8 hp) r1
  intro m
  induction m with
  | zero =>
    intro p fu N hp hf hC h3
    obtain ⟨fu, rfl⟩ : ∃ q, fu = q + 1 := ⟨fu - 1, by omega⟩
    exact stop p fu N (by omega) hC h3 (fun g => by omega)
  | succ m ih =>
    intro p fu N hp hf hC h3
    obtain ⟨fu, rfl⟩ : ∃ q, fu = q + 1 := ⟨fu - 1, by omega⟩
    have h7 := hC.1.1
    by_cases g : isWs (tp p)
    · have hbt : byt tp len p = tp p := by unfold byt; rw [if_pos (by omega)]
      have b1 : l_X11_stepOn_0 t N = some (.inl (wi N t 13 (Int32.ofNat (p + 1)))) := by
        refine Wp.eq ?_
        unfold l_X11_stepOn_0
        rw [h3]
        have fin : Wp (nm (wi N t 13 ((N.1 t 13) + (1 : Int32))) (fun M5 => some (.inl M5))) (fun q => q = (.inl (wi N t 13 (Int32.ofNat (p + 1))) : Mem ⊕ (Unit × Mem))) := by
          refine Wp.nam ?_
          rw [h3, i_ad1]
          exact Wp.ret rfl
        refine Wp.cl (e_byteAt hC (by omega)) (Wp.j1 ?_)
        rw [hbt]
        by_cases g2 : tp p = 32
        · exact Wp.ps g2 fin
        · refine Wp.ng g2 ?_
          rw [h3]
          refine Wp.cl (e_byteAt hC (by omega)) ?_
          rw [hbt]
          exact Wp.ps (g.resolve_left g2) fin
      obtain ⟨st, pos, kd, N', r1, r2, r3, r4⟩ := ih (p + 1) fu (wi N t 13 (Int32.ofNat (p + 1))) (by omega) (by omega) (hC.w (by decide)) wi_hit
      exact ⟨st, pos, kd, N', (lop1_inl b1).trans r1, ⟨Run.cons g r2.1, r2.2⟩, r3, (frM5.w (by omega)).tr r4⟩
    · exact stop p fu N (by omega) hC h3 (fun _ => g)
theorem e_stepOn {t p len : Nat} {tp : Nat → Int32} {N : Mem} (hC : MTp t tp len N) (hp : p ≤ len) (h3 : N.1 t 13 = Int32.ofNat p) : ∃ st pos kd N', f_X11_stepOn t N = some ((), N') ∧ Tok tp len p st pos kd ∧ MK t tp len st pos kd N' ∧ frM5 t N N' := by
  have h7 := hC.1.1
  exact step_loop (len - p) p FU N (by omega) (by unfold FU; omega) hC h3
