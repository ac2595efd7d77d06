/-! The reader: what is given of the line; numbers of it -/
def RuG (N : Mem) (t i : Nat) (cs : List Int32) : Prop := N.1 (t + 3) (18 + i) = Int32.ofNat cs.length ∧ ∀ j, j < cs.length → N.1 (t + 5 + i) (700 + j) = trS (cs.getD j 0)
def LG (x sp : Nat) (L : LN) (M N : Mem) : Prop := (∀ k, k < 8 → M.1 sp k = L.1 k ∧ N.1 (x + 95 + 3) (10 + k) = L.1 k) ∧ (∀ k : Nat, k < 16 ∧ (k = 0 ∨ (k : Int) < (L.1 7).toInt) → M.1 (sp + 1) k = L.2.1 k ∧ N.1 (x + 95 + 4) (16 + k) = L.2.1 k) ∧ Rul M (sp + 2) L.2.2.1 ∧ Rul M (sp + 5) L.2.2.2 ∧ RuG N (x + 95) 0 L.2.2.1 ∧ RuG N (x + 95) 1 L.2.2.2
def spA (x sp : Nat) (M : Mem) : Prop := (sp = x + 3 ∨ sp = x + 11) ∧ M.2.2 1 = sp
def frL (x sp : Nat) (M M' : Mem) : Prop := (∀ b k, ¬ (b = x + 1 ∧ 3 ≤ k ∧ k ≤ 7) → ¬ (sp ≤ b ∧ b < sp + 8) → M'.1 b k = M.1 b k) ∧ M'.2.1 = M.2.1 ∧ M'.2.2 0 = M.2.2 0 ∧ M'.2.2 1 = M.2.2 1
def frK (t : Nat) (N N' : Mem) : Prop := (∀ b k, ¬ (b = t ∧ (k = 10 ∨ k = 13 ∨ (15 ≤ k ∧ k ≤ 20))) → ¬ (b = t + 3 ∧ 10 ≤ k) → ¬ (b = t + 4 ∧ 16 ≤ k) → ¬ ((b = t + 5 ∨ b = t + 6) ∧ 700 ≤ k) → N'.1 b k = N.1 b k) ∧ N'.2 = N.2
def frX (x sp : Nat) (M M' : Mem) : Prop := (∀ b k, ¬ (b = x + 1 ∧ 3 ≤ k) → ¬ (sp ≤ b ∧ b < sp + 8) → M'.1 b k = M.1 b k) ∧ M'.2.1 = M.2.1 ∧ M'.2.2 0 = M.2.2 0 ∧ M'.2.2 1 = M.2.2 1
theorem frL.X {x sp : Nat} {M M' : Mem} (h : frL x sp M M') : frX x sp M M' := ⟨fun b k a1 a2 => h.1 b k (by omega) a2, h.2⟩
theorem frX.rf {x sp : Nat} {M : Mem} : frX x sp M M := ⟨fun _ _ _ _ => rfl, rfl, rfl, rfl⟩
theorem frX.tr {x sp : Nat} {M M1 M2 : Mem} (h1 : frX x sp M M1) (h2 : frX x sp M1 M2) : frX x sp M M2 := ⟨fun b k a1 a2 => (h2.1 b k a1 a2).trans (h1.1 b k a1 a2), h2.2.1.trans h1.2.1, h2.2.2.1.trans h1.2.2.1, h2.2.2.2.trans h1.2.2.2⟩
theorem frL.rf {x sp : Nat} {M : Mem} : frL x sp M M := ⟨fun _ _ _ _ => rfl, rfl, rfl, rfl⟩
theorem frK.rf {t : Nat} {M : Mem} : frK t M M := ⟨fun _ _ _ _ _ _ => rfl, rfl⟩
theorem frL.tr {x sp : Nat} {M M1 M2 : Mem} (h1 : frL x sp M M1) (h2 : frL x sp M1 M2) : frL x sp M M2 := ⟨fun b k a1 a2 => (h2.1 b k a1 a2).trans (h1.1 b k a1 a2), h2.2.1.trans h1.2.1, h2.2.2.1.trans h1.2.2.1, h2.2.2.2.trans h1.2.2.2⟩
theorem frK.tr {t : Nat} {M M1 M2 : Mem} (h1 : frK t M M1) (h2 : frK t M1 M2) : frK t M M2 := ⟨fun b k a1 a2 a3 a4 => (h2.1 b k a1 a2 a3 a4).trans (h1.1 b k a1 a2 a3 a4), h2.2.trans h1.2⟩
theorem frR.L {x sp : Nat} {M M' : Mem} (h : frR x M M') : frL x sp M M' := ⟨fun b k a _ => h.1 b k (by omega), by rw [h.2], by rw [h.2], by rw [h.2]⟩
theorem frT.K {t : Nat} {M M' : Mem} (h : frT t M M') : frK t M M' := ⟨fun b k a _ _ _ => h.1 b k (by omega), h.2⟩
theorem frE.L {x sp i : Nat} {M M' : Mem} (h : frE x sp i M M') (hi : i ≤ 1) : frL x sp M M' := ⟨fun b k a1 a2 => h.1 b k (by omega) (by omega) (by omega), by rw [h.2], by rw [h.2], by rw [h.2]⟩
theorem frG.K {t i : Nat} {M M' : Mem} (h : frG t i M M') (hi : i ≤ 1) : frK t M M' := ⟨fun b k a1 a2 a3 a4 => h.1 b k (by omega) (by omega) (by omega), h.2⟩
theorem spA.L {x sp : Nat} {M M' : Mem} (h : spA x sp M) (hf : frL x sp M M') : spA x sp M' := ⟨h.1, hf.2.2.2.trans h.2⟩
theorem spA.gd {x sp : Nat} {M : Mem} (h : spA x sp M) : M.2.2 1 = x + 1 + 2 ∨ M.2.2 1 = x + 1 + 10 := by
  obtain ⟨h1, h2⟩ := h
  omega
theorem LG.cg {x sp : Nat} {L : LN} {M N M' N' : Mem} (h : LG x sp L M N) (hM : ∀ b k, sp ≤ b → b < sp + 8 → M'.1 b k = M.1 b k) (hN : ∀ b k, (b = x + 95 + 3 ∧ 10 ≤ k) ∨ (b = x + 95 + 4 ∧ 16 ≤ k) ∨ ((b = x + 95 + 5 ∨ b = x + 95 + 6) ∧ 700 ≤ k) → N'.1 b k = N.1 b k) : LG x sp L M' N' := by
  obtain ⟨h1, h2, ⟨a1, a2, a3⟩, ⟨b1, b2, b3⟩, ⟨c1, c2⟩, ⟨d1, d2⟩⟩ := h
  refine ⟨fun k hk => ?_, fun k hk => ?_, ⟨?_, a2, fun j hj => ?_⟩, ⟨?_, b2, fun j hj => ?_⟩, ⟨?_, fun j hj => ?_⟩, ⟨?_, fun j hj => ?_⟩⟩
  · rw [hM _ _ (by omega) (by omega), hN _ _ (by omega)]; exact h1 k hk
  · rw [hM _ _ (by omega) (by omega), hN _ _ (by omega)]; exact h2 k hk
  · rw [hM _ _ (by omega) (by omega)]; exact a1
  · rw [hM _ _ (by omega) (by omega)]; exact a3 j hj
  · rw [hM _ _ (by omega) (by omega)]; exact b1
  · rw [hM _ _ (by omega) (by omega)]; exact b3 j hj
  · rw [hN _ _ (by omega)]; exact c1
  · rw [hN _ _ (by omega)]; exact c2 j hj
  · rw [hN _ _ (by omega)]; exact d1
  · rw [hN _ _ (by omega)]; exact d2 j hj
theorem LG.RT {x sp : Nat} {L : LN} {M N M' N' : Mem} (h : LG x sp L M N) (hs : sp = x + 3 ∨ sp = x + 11) (fR : frR x M M') (fT : frT (x + 95) N N') : LG x sp L M' N' := h.cg (fun b k _ _ => fR.1 b k (by omega)) (fun b k hb => fT.1 b k (by omega))
/-- a number of the line is set -/
theorem LG.set {x sp k : Nat} {v : Int32} {L : LN} {M N : Mem} (h : LG x sp L M N) (hk : k < 7) : LG x sp (rup L.1 k v, L.2) (wi M sp k v) (wi N (x + 95 + 3) (10 + k) v) := by
  obtain ⟨h1, h2, ⟨a1, a2, a3⟩, ⟨b1, b2, b3⟩, ⟨c1, c2⟩, ⟨d1, d2⟩⟩ := h
  refine ⟨fun j hj => ?_, fun j hj => ?_, ⟨?_, a2, fun j hj => ?_⟩, ⟨?_, b2, fun j hj => ?_⟩, ⟨?_, fun j hj => ?_⟩, ⟨?_, fun j hj => ?_⟩⟩
  · by_cases e : j = k
    · subst e
      rw [wi_hit, wi_hit]
      simp [rup]
    · rw [wi_sl e, wi_sl (by omega), show (rup L.1 k v, L.2).1 j = L.1 j from rup_o e]
      exact h1 j hj
  · rw [wi_rwo (by omega), wi_rwo (by omega)]
    refine h2 j ?_
    rw [show (rup L.1 k v, L.2).1 7 = L.1 7 from rup_o (by omega)] at hj
    exact hj
  · rw [wi_rwo (by omega)]; exact a1
  · rw [wi_rwo (by omega)]; exact a3 j hj
  · rw [wi_rwo (by omega)]; exact b1
  · rw [wi_rwo (by omega)]; exact b3 j hj
  · rw [wi_sl (by omega)]; exact c1
  · rw [wi_rwo (by omega)]; exact c2 j hj
  · rw [wi_sl (by omega)]; exact d1
  · rw [wi_rwo (by omega)]; exact d2 j hj
theorem LV.sp {x sp : Nat} {tp : Nat → Int32} {len st pos : Nat} {kd : Int32} {M N M' N' : Mem} (h : LV x tp len st pos kd M N) (hs : sp = x + 3 ∨ sp = x + 11) (hM : ∀ b k, ¬ (sp ≤ b ∧ b < sp + 8) → M'.1 b k = M.1 b k) (hN : ∀ b k, ¬ (b = x + 95 + 3) → ¬ (b = x + 95 + 4) → N'.1 b k = N.1 b k) : LV x tp len st pos kd M' N' := h.cg (fun b k hb => hM b k (by omega)) (fun b k hb => hN b k (by omega) (by omega))
theorem wiL {x sp b k : Nat} {v : Int32} {M : Mem} (hb : sp ≤ b ∧ b < sp + 8) : frL x sp M (wi M b k v) := ⟨fun a j _ h => by
  have : ¬ a = b := fun e => h (by omega)
  rw [wi_rwo this], rfl, rfl, rfl⟩
theorem wiK {t b k : Nat} {v : Int32} {N : Mem} (hb : (b = t + 3 ∧ 10 ≤ k) ∨ (b = t + 4 ∧ 16 ≤ k) ∨ (b = t ∧ k = 10)) : frK t N (wi N b k v) := ⟨fun a j h1 h2 h3 _ => by
  simp only [wi]
  rw [if_neg (by omega)], rfl⟩
/-- what a setting comes to -/
def SR (x sp : Nat) (tp : Nat → Int32) (len st0 : Nat) (L : LN) (M0 N0 M N : Mem) : Prop := frL x sp M0 M ∧ frK (x + 95) N0 N ∧ ((∃ st pos kd L', LV x tp len st pos kd M N ∧ LG x sp L' M N ∧ LWf L' ∧ L'.2.2 = L.2.2 ∧ st0 ≤ st) ∨ (∃ f p, DD x f p M N))
theorem DD.sp {x sp : Nat} {f p : Int32} {M N M' N' : Mem} (h : DD x f p M N) (hs : sp = x + 3 ∨ sp = x + 11) (hM : ∀ b k, ¬ (sp ≤ b ∧ b < sp + 8) → M'.1 b k = M.1 b k) (hN : ∀ b k, ¬ (b = x + 95 + 3) → ¬ (b = x + 95 + 4) → N'.1 b k = N.1 b k) : DD x f p M' N' := h.cg (fun k _ => hM _ _ (by omega)) (fun k _ => hN _ _ (by omega) (by omega))
theorem LWf.set {L : LN} {k : Nat} {v : Int32} (h : LWf L) (hk : k < 7) (hv : (k = 0 → 1 ≤ v.toInt ∧ v.toInt ≤ 8) ∧ (k = 4 → 1 ≤ v.toInt ∧ v.toInt ≤ 16) ∧ (k = 6 → 1 ≤ v.toInt ∧ v.toInt ≤ 8) ∧ (k = 5 → -99 ≤ v.toInt ∧ v.toInt ≤ 99)) : LWf (rup L.1 k v, L.2) := by
  obtain ⟨h1, h2, h3, h4, h5, h6, h7⟩ := h
  have e : ∀ j, (rup L.1 k v, L.2).1 j = if j = k then v else L.1 j := fun j => rfl
  refine ⟨?_, ?_, ?_, ?_, ?_, h6, h7⟩
  · rw [e]
    by_cases g : 0 = k
    · rw [if_pos g]; exact hv.1 g.symm
    · rw [if_neg g]; exact h1
  · rw [e]
    by_cases g : 4 = k
    · rw [if_pos g]; exact hv.2.1 g.symm
    · rw [if_neg g]; exact h2
  · rw [e]
    by_cases g : 6 = k
    · rw [if_pos g]; exact hv.2.2.1 g.symm
    · rw [if_neg g]; exact h3
  · rw [e]
    by_cases g : 7 = k
    · omega
    · rw [if_neg g]; exact h4
  · rw [e]
    by_cases g : 5 = k
    · rw [if_pos g]; exact hv.2.2.2 g.symm
    · rw [if_neg g]; exact h5
/-- one number of the line is read, and set -/
theorem set1 {x sp k : Nat} {lo hi : Int32} {tp : Nat → Int32} {len st pos : Nat} {kd : Int32} {L : LN} {M N : Mem} (hs : sp = x + 3 ∨ sp = x + 11) (hL : LV x tp len st pos kd M N) (hG : LG x sp L M N) (hW : LWf L) (hk : k < 7) (hh : hi.toInt ≤ 9999) (hlo : lo.toInt ≤ hi.toInt) (hv : (k = 0 → 1 ≤ lo.toInt ∧ hi.toInt ≤ 8) ∧ (k = 4 → 1 ≤ lo.toInt ∧ hi.toInt ≤ 16) ∧ (k = 6 → 1 ≤ lo.toInt ∧ hi.toInt ≤ 8) ∧ (k = 5 → -99 ≤ lo.toInt ∧ hi.toInt ≤ 99)) : ∃ v w M1 N1, f_X6_passNumber (x + 1) lo hi M = some (v, M1) ∧ f_X11_readNumber (x + 95) lo hi N = some (w, N1) ∧ SR x sp tp len st L M N (wi M1 sp k v) (wi N1 (x + 95 + 3) (10 + k) w) := by
  have hle := hL.le
  obtain ⟨v, w, M1, N1, n1, n2, fR, fT, b1, b2, hres⟩ := hL.num hh hlo
  refine ⟨v, w, M1, N1, n1, n2, fR.L.tr (wiL (by omega)), fT.K.tr (wiK (by omega)), ?_⟩
  rcases hres with ⟨hvw, _, st1, pos1, kd1, hL1, hp1⟩ | ⟨f, hD, _⟩
  · subst hvw
    exact Or.inl ⟨st1, pos1, kd1, (rup L.1 k v, L.2), hL1.sp hs (fun b j h => by rw [wi_rwo (by omega)]) (fun b j h _ => by rw [wi_rwo h]), (hG.RT hs fR fT).set hk, hW.set hk ⟨fun e => by have := hv.1 e; omega, fun e => by have := hv.2.1 e; omega, fun e => by have := hv.2.2.1 e; omega, fun e => by have := hv.2.2.2 e; omega⟩, rfl, by omega⟩
  · exact Or.inr ⟨f, _, hD.sp hs (fun b j h => by rw [wi_rwo (by omega)]) (fun b j h _ => by rw [wi_rwo h])⟩
