/-! The reader: class and model, TOKEN by TOKEN -/
def LV (x : Nat) (tp : Nat → Int32) (len st pos : Nat) (kd : Int32) (M N : Mem) : Prop := CK x tp len st pos kd M ∧ MK (x + 95) tp len st pos kd N ∧ M.1 (x + 1) 6 = 0 ∧ N.1 (x + 95) 19 = 0 ∧ ∃ p, Tok tp len p st pos kd
def DD (x : Nat) (f p : Int32) (M N : Mem) : Prop := ¬ f = 0 ∧ M.1 (x + 1) 6 = f ∧ M.1 (x + 1) 7 = p ∧ M.1 (x + 1) 5 = -1 ∧ N.1 (x + 95) 19 = f ∧ N.1 (x + 95) 20 = p
/-- what the reader changes of itself -/
def frR (x : Nat) (M M' : Mem) : Prop := (∀ b k, ¬ (b = x + 1 ∧ (k = 3 ∨ k = 4 ∨ k = 5 ∨ k = 6 ∨ k = 7)) → M'.1 b k = M.1 b k) ∧ M'.2 = M.2
def frT (t : Nat) (N N' : Mem) : Prop := (∀ b k, ¬ (b = t ∧ (k = 13 ∨ k = 15 ∨ k = 16 ∨ k = 17 ∨ k = 18 ∨ k = 19 ∨ k = 20)) → N'.1 b k = N.1 b k) ∧ N'.2 = N.2
theorem frR.rf {x : Nat} {M : Mem} : frR x M M := ⟨fun _ _ _ => rfl, rfl⟩
theorem frT.rf {t : Nat} {M : Mem} : frT t M M := ⟨fun _ _ _ => rfl, rfl⟩
theorem frR.tr {x : Nat} {M M1 M2 : Mem} (h1 : frR x M M1) (h2 : frR x M1 M2) : frR x M M2 := ⟨fun b k h => (h2.1 b k h).trans (h1.1 b k h), h2.2.trans h1.2⟩
theorem frT.tr {t : Nat} {M M1 M2 : Mem} (h1 : frT t M M1) (h2 : frT t M1 M2) : frT t M M2 := ⟨fun b k h => (h2.1 b k h).trans (h1.1 b k h), h2.2.trans h1.2⟩
theorem frR.w {x k : Nat} {v : Int32} {M : Mem} (hk : k = 3 ∨ k = 4 ∨ k = 5 ∨ k = 6 ∨ k = 7) : frR x M (wi M (x + 1) k v) := ⟨fun b j hb => by
  simp only [wi]
  rw [if_neg (by omega)], rfl⟩
theorem frT.w {t k : Nat} {v : Int32} {M : Mem} (hk : k = 13 ∨ k = 15 ∨ k = 16 ∨ k = 17 ∨ k = 18 ∨ k = 19 ∨ k = 20) : frT t M (wi M t k v) := ⟨fun b j hb => by
  simp only [wi]
  rw [if_neg (by omega)], rfl⟩
theorem fr345.R {x : Nat} {M M' : Mem} (h : fr345 x M M') : frR x M M' := ⟨fun b k hb => h.1 b k (by omega), h.2⟩
theorem frM5.T {t : Nat} {M M' : Mem} (h : frM5 t M M') : frT t M M' := ⟨fun b k hb => h.1 b k (by omega), h.2⟩
theorem LV.le {x : Nat} {tp : Nat → Int32} {len st pos : Nat} {kd : Int32} {M N : Mem} (h : LV x tp len st pos kd M N) : st ≤ pos ∧ pos ≤ len ∧ len ≤ 700 ∧ (¬ kd = 0 → st < pos) := by
  obtain ⟨p, hp⟩ := h.2.2.2.2
  have := hp.le
  exact ⟨this.2.1, this.2.2.1, h.1.1.1.1, this.2.2.2⟩
theorem LV.adv {x : Nat} {tp : Nat → Int32} {len st pos : Nat} {kd : Int32} {M N : Mem} (h : LV x tp len st pos kd M N) : ∃ st' pos' kd' M' N', f_X6_advance (x + 1) M = some ((), M') ∧ f_X11_stepOn (x + 95) N = some ((), N') ∧ LV x tp len st' pos' kd' M' N' ∧ pos ≤ st' ∧ frR x M M' ∧ frT (x + 95) N N' := by
  have hl := h.le
  obtain ⟨h1, h2, h3, h4, _⟩ := h
  obtain ⟨st1, pos1, kd1, M', r1, r2, r3, r4⟩ := e_adv h1.1 hl.2.1 h1.2.1 h3
  obtain ⟨st2, pos2, kd2, N', s1, s2, s3, s4⟩ := e_stepOn h2.1 hl.2.1 h2.2.1
  obtain ⟨e1, e2, e3⟩ := r2.uq s2
  subst e1 e2 e3
  exact ⟨st1, pos1, kd1, M', N', r1, s1, ⟨r3, s3, by rw [r4.1 _ _ (by omega)]; exact h3, by rw [s4.1 _ _ (by omega)]; exact h4, pos, r2⟩, r2.le.1, r4.R, s4.T⟩
theorem LV.fail {x : Nat} {f : Int32} {tp : Nat → Int32} {len st pos : Nat} {kd : Int32} {M N : Mem} (h : LV x tp len st pos kd M N) (hf : ¬ f = 0) : ∃ M' N', f_X6_fail (x + 1) f M = some ((), M') ∧ f_X11_wrong (x + 95) f N = some ((), N') ∧ DD x f (Int32.ofNat st) M' N' ∧ frR x M M' ∧ frT (x + 95) N N' := by
  obtain ⟨h1, h2, h3, h4, _⟩ := h
  refine ⟨wi (wi (wi M (x + 1) 6 f) (x + 1) 7 (Int32.ofNat st)) (x + 1) 5 (-1), wi (wi N (x + 95) 19 f) (x + 95) 20 (Int32.ofNat st), Wp.eq ?_, Wp.eq ?_, ⟨hf, by rw [wi_sl (by decide), wi_sl (by decide), wi_hit], by rw [wi_sl (by decide), wi_hit], wi_hit, by rw [wi_sl (by decide), wi_hit], wi_hit⟩, ((frR.w (by omega)).tr (frR.w (by omega))).tr (frR.w (by omega)), (frT.w (by omega)).tr (frT.w (by omega))⟩
  · unfold f_X6_fail
    refine Wp.j1 (Wp.ps h3 (Wp.nam ?_))
    rw [wi_sl (show ¬ (4 : Nat) = 6 by decide), h1.2.2.1]
    exact Wp.nam (Wp.nam (Wp.ret rfl))
  · unfold f_X11_wrong
    refine Wp.ps h4 (Wp.nam ?_)
    rw [wi_sl (show ¬ (17 : Nat) = 19 by decide), h2.2.2.1]
    exact Wp.nam (Wp.ret rfl)
theorem DD.fail {x : Nat} {f p g : Int32} {M N : Mem} (h : DD x f p M N) : f_X6_fail (x + 1) g M = some ((), M) := by
  refine Wp.eq ?_
  unfold f_X6_fail
  refine Wp.j1 (Wp.ng (by rw [h.2.1]; exact h.1) (Wp.nam (Wp.ret ?_)))
  refine congrArg (Prod.mk ()) (Mem.ext' (fun b j => ?_) rfl)
  simp only [wi]
  by_cases e : b = x + 1 ∧ j = 5
  · rw [if_pos e, e.1, e.2, h.2.2.2.1]
  · rw [if_neg e]
theorem DD.adv {x : Nat} {f p : Int32} {M N : Mem} (h : DD x f p M N) : f_X6_advance (x + 1) M = some ((), M) := by
  unfold f_X6_advance
  rw [if_neg (by rw [h.2.1]; exact h.1)]
theorem DD.wrong {x : Nat} {f p g : Int32} {M N : Mem} (h : DD x f p M N) : f_X11_wrong (x + 95) g N = some ((), N) := by
  unfold f_X11_wrong
  rw [if_neg (by rw [h.2.2.2.2.1]; exact h.1)]
theorem DD.n19 {x : Nat} {f p : Int32} {M N : Mem} (h : DD x f p M N) : ¬ N.1 (x + 95) 19 = 0 := by rw [h.2.2.2.2.1]; exact h.1
theorem is0 {t s : Nat} {N : Mem} (h : ¬ N.1 t 19 = 0 ∨ ¬ N.1 t 15 = 1) : f_X11_is t s N = some (0, N) := by
  refine Wp.eq ?_
  unfold f_X11_is
  have fin : Wp (lop3 FU (l_X11_is_39 t s) 0 (0 : Int32) N) (fun q => q = (0, N)) := by
    have : lop3 FU (l_X11_is_39 t s) 0 (0 : Int32) N = some (0, N) := by
      show lop3 (999999 + 1) (l_X11_is_39 t s) 0 (0 : Int32) N = some (0, N)
      refine lop3_inr (Wp.eq ?_)
      unfold l_X11_is_39
      exact Wp.j1 (Wp.ps rfl (Wp.gp (Or.inl rfl) (Wp.ret rfl)))
    exact ⟨_, this, rfl⟩
  refine Wp.j2 (Wp.j1 (Wp.br (fun g1 => Wp.br (fun g2 => ?_) (fun _ => fin)) (fun _ => fin)))
  exact absurd g2 (h.resolve_left (fun q => q g1))
theorem isMarked0 {t : Nat} {c : Int32} {N : Mem} (h : ¬ N.1 t 19 = 0 ∨ ¬ N.1 t 15 = 3) : f_X11_isMarked t c N = some (0, N) := by
  refine Wp.eq ?_
  unfold f_X11_isMarked
  refine Wp.j1 (Wp.j0 (Wp.br (fun g1 => Wp.br (fun g2 => ?_) (fun _ => Wp.gp (Or.inl rfl) (Wp.ret rfl))) (fun _ => Wp.gp (Or.inl rfl) (Wp.ret rfl))))
  exact absurd g2 (h.resolve_left (fun q => q g1))
theorem lay0 {t : Nat} {u : Int32} {N : Mem} (h : ¬ N.1 t 19 = 0) : f_X11_lay t u N = some ((), N) := by
  unfold f_X11_lay
  rw [if_neg h]
theorem mark0 {t : Nat} {u : Int32} {N : Mem} (h : ¬ N.1 t 19 = 0) : f_X11_mark t u N = some ((), N) := by
  refine Wp.eq ?_
  unfold f_X11_mark
  exact Wp.j1 (Wp.ng h (Wp.j1 (Wp.ng h (Wp.ret rfl))))
theorem number0 {t : Nat} {u v : Int32} {N : Mem} (h : ¬ N.1 t 19 = 0) : f_X11_readNumber t u v N = some (0, N) := by
  unfold f_X11_readNumber
  rw [if_neg h]
theorem isWord0 {t s : Nat} {M : Mem} (h : ¬ M.1 t 5 = 2) : f_X6_isWord t s M = some (0, M) := by
  refine Wp.eq ?_
  unfold f_X6_isWord
  exact Wp.j1 (Wp.ng h (Wp.ret rfl))
/-- the mark that stands there -/
theorem LV.mark {x : Nat} {c : Int32} {tp : Nat → Int32} {len st pos : Nat} {kd : Int32} {M N : Mem} (h : LV x tp len st pos kd M N) (hc : isMk c) : f_X11_isMarked (x + 95) c N = some (if kd = c then 1 else 0, N) := by
  have hl := h.le
  obtain ⟨h1, h2, h3, h4, p, hp⟩ := h
  have h7 := h2.1.1.1
  by_cases hm : mdP kd = 3
  · have hk0 : ¬ kd = 0 := fun e => by rw [e] at hm; exact absurd hm (by decide)
    have hk1 : ¬ kd = 1 := fun e => by rw [e] at hm; exact absurd hm (by decide)
    have hk2 : ¬ kd = 2 := fun e => by rw [e] at hm; exact absurd hm (by decide)
    have hk3 : ¬ kd = 3 := fun e => by rw [e] at hm; exact absurd hm (by decide)
    obtain ⟨_, hp2⟩ := hp
    have hkd : st < len ∧ kd = tp st := by
      rcases hp2 with ⟨_, _, e⟩ | ⟨a, e, _⟩
      · exact absurd e hk0
      · refine ⟨a, ?_⟩
        rw [e] at hk1 hk2 hk3 ⊢
        unfold kindP at hk1 hk2 hk3 ⊢
        by_cases g1 : isLt (tp st)
        · rw [if_pos g1] at hk2; exact absurd rfl hk2
        · by_cases g2 : isDg (tp st)
          · rw [if_neg g1, if_pos g2] at hk3; exact absurd rfl hk3
          · by_cases g3 : isMk (tp st)
            · rw [if_neg g1, if_neg g2, if_pos g3]
            · rw [if_neg g1, if_neg g2, if_neg g3] at hk1; exact absurd rfl hk1
    refine Wp.eq ?_
    unfold f_X11_isMarked
    refine Wp.j1 (Wp.j0 (Wp.ps h4 (Wp.ps (by rw [h2.2.2.2.2.1]; exact hm) ?_)))
    rw [h2.2.2.1]
    refine Wp.gi (i_rng (by omega) (by decide)) ?_
    rw [i_nn (by omega), h2.1.2.2 st hkd.1, ← hkd.2]
    by_cases g : kd = c
    · rw [if_pos g, if_pos g]
      exact Wp.gp (Or.inr rfl) (Wp.ret rfl)
    · rw [if_neg g, if_neg g]
      exact Wp.gp (Or.inl rfl) (Wp.ret rfl)
  · have hne : ¬ kd = c := fun e => hm (by
      rw [e]
      rcases hc with e | e | e | e | e | e | e | e | e <;> rw [e] <;> decide)
    rw [if_neg hne]
    exact isMarked0 (Or.inr (by rw [h2.2.2.2.2.1]; exact hm))
/-- the word that stands there -/
def WD (tp : Nat → Int32) (st pos s : Nat) : Prop := pos - st = sLen.getD s 0 ∧ ∀ j, j < sLen.getD s 0 → tp (st + j) = (sByt.getD s []).getD j 0
theorem sl_le : ∀ s, s < 32 → sLen.getD s 0 ≤ 6 ∧ (s < 16 → sLen.getD (s + 16) 0 = sLen.getD s 0 ∧ sByt.getD (s + 16) [] = sByt.getD s []) := by decide
theorem cword_loop {x s len st pos : Nat} {tp : Nat → Int32} {M : Mem} (hs : s < 32) (hC : CTp x tp len M) (h4 : M.1 (x + 1) 4 = Int32.ofNat st) (hl : st + sLen.getD s 0 ≤ len) : ∀ (m j fu : Nat), j + m = sLen.getD s 0 → m < fu → ∃ v, lop2 fu (l_X6_isWord_28 (x + 1) s) (Int32.ofNat j) M = some (v, M) ∧ ((v = 1 ∧ ∀ i, j ≤ i → i < sLen.getD s 0 → tp (st + i) = (sByt.getD s []).getD i 0) ∨ (v = 0 ∧ ¬ ∀ i, j ≤ i → i < sLen.getD s 0 → tp (st + i) = (sByt.getD s []).getD i 0)) := by
  have h6 := (sl_le s hs).1
  have h7 := hC.1
  intro m
  induction m with
  | zero =>
    intro j fu hj hf
    obtain ⟨fu, rfl⟩ : ∃ q, fu = q + 1 := ⟨fu - 1, by omega⟩
    refine ⟨1, lop2_inr (Wp.eq ?_), Or.inl ⟨rfl, fun i a b => by omega⟩⟩
    unfold l_X6_isWord_28
    exact Wp.ps ((i_le (by omega) (by omega)).mpr (by omega)) (Wp.ret rfl)
  | succ m ih =>
    intro j fu hj hf
    obtain ⟨fu, rfl⟩ : ∃ q, fu = q + 1 := ⟨fu - 1, by omega⟩
    have hlt : ¬ Int32.ofNat (sLen.getD s 0) ≤ Int32.ofNat j := i64_lt (by omega) (by omega)
    by_cases g : tp (st + j) = (sByt.getD s []).getD j 0
    · have b1 : l_X6_isWord_28 (x + 1) s (Int32.ofNat j) M = some (.inl (Int32.ofNat (j + 1), M)) := by
        refine Wp.eq ?_
        unfold l_X6_isWord_28
        rw [h4, i_ad]
        refine Wp.ng hlt (Wp.cl (hC.at (by omega)) (Wp.gi (i_rng (by omega) (by omega)) ?_))
        rw [i_nn (by omega)]
        refine Wp.ps g (Wp.nam ?_)
        rw [i_ad1]
        exact Wp.ret rfl
      obtain ⟨v, e, hv⟩ := ih (j + 1) fu (by omega) (by omega)
      refine ⟨v, (lop2_inl b1).trans e, ?_⟩
      have hiff : (∀ i, j ≤ i → i < sLen.getD s 0 → tp (st + i) = (sByt.getD s []).getD i 0) ↔ (∀ i, j + 1 ≤ i → i < sLen.getD s 0 → tp (st + i) = (sByt.getD s []).getD i 0) := by
        constructor
        · exact fun q i a b => q i (by omega) b
        · intro q i a b
          by_cases e : i = j
          · subst e; exact g
          · exact q i (by omega) b
      rw [hiff]
      exact hv
    · refine ⟨0, lop2_inr (Wp.eq ?_), Or.inr ⟨rfl, fun q => g (q j (Nat.le_refl _) (by omega))⟩⟩
      unfold l_X6_isWord_28
      rw [h4, i_ad]
      refine Wp.ng hlt (Wp.cl (hC.at (by omega)) (Wp.gi (i_rng (by omega) (by omega)) ?_))
      rw [i_nn (by omega)]
      exact Wp.ng g (Wp.ret rfl)
theorem mword_loop {t s len st : Nat} {tp : Nat → Int32} {N : Mem} (hs : s < 32) (hC : MTp t tp len N) (h17 : N.1 t 17 = Int32.ofNat st) (hl : st + sLen.getD s 0 ≤ len) : ∀ (m j fu : Nat), j + m = sLen.getD s 0 → m + 1 < fu → ∃ v, lop3 fu (l_X11_is_39 t s) 1 (Int32.ofNat j) N = some (v, N) ∧ ((v = 1 ∧ ∀ i, j ≤ i → i < sLen.getD s 0 → tp (st + i) = (sByt.getD s []).getD i 0) ∨ (v = 0 ∧ ¬ ∀ i, j ≤ i → i < sLen.getD s 0 → tp (st + i) = (sByt.getD s []).getD i 0)) := by
  have h6 := (sl_le s hs).1
  have h7 := hC.1.1
  intro m
  induction m with
  | zero =>
    intro j fu hj hf
    obtain ⟨fu, rfl⟩ : ∃ q, fu = q + 1 := ⟨fu - 1, by omega⟩
    refine ⟨1, lop3_inr (Wp.eq ?_), Or.inl ⟨rfl, fun i a b => by omega⟩⟩
    unfold l_X11_is_39
    exact Wp.j1 (Wp.ng (by decide) (Wp.ps ((i_le (by omega) (by omega)).mpr (by omega)) (Wp.gp (Or.inr rfl) (Wp.ret rfl))))
  | succ m ih =>
    intro j fu hj hf
    obtain ⟨fu, rfl⟩ : ∃ q, fu = q + 1 := ⟨fu - 1, by omega⟩
    have hlt : ¬ Int32.ofNat (sLen.getD s 0) ≤ Int32.ofNat j := i64_lt (by omega) (by omega)
    have b1 : l_X11_is_39 t s 1 (Int32.ofNat j) N = some (.inl (if (sByt.getD s []).getD j 0 = tp (st + j) then 1 else 0, Int32.ofNat (j + 1), N)) := by
      refine Wp.eq ?_
      unfold l_X11_is_39
      rw [h17, i_ad]
      refine Wp.j1 (Wp.ng (by decide) (Wp.ng hlt (Wp.gi (i_rng (by omega) (by omega)) (Wp.gi (i_rng (by omega) (by decide)) (Wp.j1 ?_)))))
      rw [i_nn (by omega), i_nn (by omega), hC.2.2 _ (by omega)]
      by_cases g : (sByt.getD s []).getD j 0 = tp (st + j)
      · rw [if_pos g, if_pos g]
        refine Wp.nam ?_
        rw [i_ad1]
        exact Wp.ret rfl
      · rw [if_neg g, if_neg g]
        refine Wp.nam ?_
        rw [i_ad1]
        exact Wp.ret rfl
    by_cases g : (sByt.getD s []).getD j 0 = tp (st + j)
    · rw [if_pos g] at b1
      obtain ⟨v, e, hv⟩ := ih (j + 1) fu (by omega) (by omega)
      refine ⟨v, (lop3_inl b1).trans e, ?_⟩
      have hiff : (∀ i, j ≤ i → i < sLen.getD s 0 → tp (st + i) = (sByt.getD s []).getD i 0) ↔ (∀ i, j + 1 ≤ i → i < sLen.getD s 0 → tp (st + i) = (sByt.getD s []).getD i 0) := by
        constructor
        · exact fun q i a b => q i (by omega) b
        · intro q i a b
          by_cases e : i = j
          · subst e; exact g.symm
          · exact q i (by omega) b
      rw [hiff]
      exact hv
    · rw [if_neg g] at b1
      obtain ⟨fu, rfl⟩ : ∃ q, fu = q + 1 := ⟨fu - 1, by omega⟩
      refine ⟨0, (lop3_inl b1).trans (lop3_inr (Wp.eq ?_)), Or.inr ⟨rfl, fun q => g (q j (Nat.le_refl _) (by omega)).symm⟩⟩
      unfold l_X11_is_39
      exact Wp.j1 (Wp.ps rfl (Wp.gp (Or.inl rfl) (Wp.ret rfl)))
theorem LV.word {x s : Nat} {tp : Nat → Int32} {len st pos : Nat} {kd : Int32} {M N : Mem} (h : LV x tp len st pos kd M N) (hs : s < 16) : ∃ v, f_X6_isWord (x + 1) (s + 16) M = some (v, M) ∧ f_X11_is (x + 95) s N = some (v, N) ∧ ((v = 1 ∧ kd = 2 ∧ WD tp st pos s) ∨ (v = 0 ∧ ¬ (kd = 2 ∧ WD tp st pos s))) := by
  have hl := h.le
  obtain ⟨h1, h2, h3, h4, p, hp⟩ := h
  obtain ⟨e6, e16⟩ := sl_le s (by omega)
  obtain ⟨eL, eB⟩ := e16 hs
  have hd : Int32.ofNat pos - Int32.ofNat st = Int32.ofNat (pos - st) := i_sbn (by omega)
  by_cases hk : kd = 2
  · by_cases hL : pos - st = sLen.getD s 0
    · obtain ⟨v, c1, c2⟩ := cword_loop (s := s + 16) (pos := pos) (by omega) h1.1 h1.2.2.1 (by rw [eL]; omega) (sLen.getD (s + 16) 0) 0 FU (by omega) (by unfold FU; omega)
      obtain ⟨w, m1, m2⟩ := mword_loop (s := s) (by omega) h2.1 h2.2.2.1 (by omega) (sLen.getD s 0) 0 FU (by omega) (by unfold FU; omega)
      rw [eL, eB] at c2
      have hvw : v = w := by
        rcases c2 with ⟨a, b⟩ | ⟨a, b⟩ <;> rcases m2 with ⟨a', b'⟩ | ⟨a', b'⟩
        · rw [a, a']
        · exact absurd b b'
        · exact absurd b' b
        · rw [a, a']
      subst hvw
      refine ⟨v, Wp.eq ?_, Wp.eq ?_, ?_⟩
      · unfold f_X6_isWord
        rw [h1.2.1, h1.2.2.1, hd]
        exact Wp.j1 (Wp.ps (by rw [h1.2.2.2]; exact hk) (Wp.ps (by rw [hL, eL]) ⟨_, c1, rfl⟩))
      · unfold f_X11_is
        rw [h2.2.2.2.1, h2.2.2.1, hd]
        exact Wp.j2 (Wp.j1 (Wp.ps h4 (Wp.ps (by rw [h2.2.2.2.2.1, hk]; rfl) (Wp.ps (by rw [hL]) ⟨_, m1, rfl⟩))))
      · rcases c2 with ⟨a, b⟩ | ⟨a, b⟩
        · exact Or.inl ⟨a, hk, hL, fun j hj => b j (Nat.zero_le _) hj⟩
        · exact Or.inr ⟨a, fun q => b (fun i _ hi => q.2.2 i hi)⟩
    · have hne : ¬ Int32.ofNat (pos - st) = Int32.ofNat (sLen.getD s 0) := fun e => by
        have := congrArg Int32.toInt e
        rw [ti_nat (by omega), ti_nat (by omega)] at this
        omega
      refine ⟨0, Wp.eq ?_, Wp.eq ?_, Or.inr ⟨rfl, fun q => hL q.2.1⟩⟩
      · unfold f_X6_isWord
        rw [h1.2.1, h1.2.2.1, hd]
        exact Wp.j1 (Wp.ps (by rw [h1.2.2.2]; exact hk) (Wp.ng (by rw [eL]; exact hne) (Wp.ret rfl)))
      · unfold f_X11_is
        rw [h2.2.2.2.1, h2.2.2.1, hd]
        refine Wp.j2 (Wp.j1 (Wp.ps h4 (Wp.ps (by rw [h2.2.2.2.2.1, hk]; rfl) (Wp.ng (fun e => hne e.symm) ?_))))
        have : lop3 FU (l_X11_is_39 (x + 95) s) 0 (0 : Int32) N = some (0, N) := by
          show lop3 (999999 + 1) (l_X11_is_39 (x + 95) s) 0 (0 : Int32) N = some (0, N)
          refine lop3_inr (Wp.eq ?_)
          unfold l_X11_is_39
          exact Wp.j1 (Wp.ps rfl (Wp.gp (Or.inl rfl) (Wp.ret rfl)))
        exact ⟨_, this, rfl⟩
  · refine ⟨0, isWord0 (by rw [h1.2.2.2]; exact hk), is0 (Or.inr ?_), Or.inr ⟨rfl, fun q => hk q.1⟩⟩
    rw [h2.2.2.2.2.1]
    intro e
    unfold mdP at e
    by_cases g0 : kd = 0
    · rw [if_pos g0] at e; exact absurd e (by decide)
    · rw [if_neg g0, if_neg hk] at e
      by_cases g3 : kd = 3
      · rw [if_pos g3] at e; exact absurd e (by decide)
      · rw [if_neg g3] at e
        by_cases g1 : kd = 1
        · rw [if_pos g1] at e; exact absurd e (by decide)
        · rw [if_neg g1] at e; exact absurd e (by decide)
/-- a sign is passed -/
theorem LV.sign {x : Nat} {c : Int32} {tp : Nat → Int32} {len st pos : Nat} {kd : Int32} {M N : Mem} (h : LV x tp len st pos kd M N) (hc : isMk c) : ∃ M' N', f_X6_passSign (x + 1) c M = some ((), M') ∧ f_X11_mark (x + 95) c N = some ((), N') ∧ frR x M M' ∧ frT (x + 95) N N' ∧ ((kd = c ∧ ∃ st' pos' kd', LV x tp len st' pos' kd' M' N' ∧ pos ≤ st') ∨ (¬ kd = c ∧ DD x 1 (Int32.ofNat st) M' N')) := by
  have hm := h.mark hc
  by_cases g : kd = c
  · obtain ⟨st', pos', kd', M', N', e1, e2, e3, e4, e5, e6⟩ := h.adv
    refine ⟨M', N', Wp.eq ?_, Wp.eq ?_, e5, e6, Or.inl ⟨g, st', pos', kd', e3, e4⟩⟩
    · unfold f_X6_passSign
      exact Wp.j1 (Wp.ps (by rw [h.1.2.2.2]; exact g) (Wp.cl e1 (Wp.ret rfl)))
    · rw [if_pos g] at hm
      unfold f_X11_mark
      exact Wp.j1 (Wp.ps h.2.2.2.1 (Wp.cl hm (Wp.ng (by decide) (Wp.j1 (Wp.ps h.2.2.2.1 (Wp.cl e2 (Wp.ret rfl)))))))
  · obtain ⟨M', N', e1, e2, e3, e4, e5⟩ := h.fail (f := 1) (by decide)
    refine ⟨M', N', Wp.eq ?_, Wp.eq ?_, e4, e5, Or.inr ⟨g, e3⟩⟩
    · unfold f_X6_passSign
      exact Wp.j1 (Wp.ng (by rw [h.1.2.2.2]; exact g) (Wp.cl e1 (Wp.ret rfl)))
    · rw [if_neg g] at hm
      unfold f_X11_mark
      exact Wp.j1 (Wp.ps h.2.2.2.1 (Wp.cl hm (Wp.ps rfl (Wp.cl e2 (Wp.j1 (Wp.ng e3.n19 (Wp.ret rfl)))))))
theorem DD.sign {x : Nat} {f p c : Int32} {M N : Mem} (h : DD x f p M N) (hc : ¬ c = -1) : f_X6_passSign (x + 1) c M = some ((), M) ∧ f_X11_mark (x + 95) c N = some ((), N) := by
  refine ⟨Wp.eq ?_, mark0 h.n19⟩
  unfold f_X6_passSign
  exact Wp.j1 (Wp.ng (by rw [h.2.2.2.1]; exact fun e => hc e.symm) (Wp.cl h.fail (Wp.ret rfl)))
