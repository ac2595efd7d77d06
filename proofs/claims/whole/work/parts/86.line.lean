/-! A line is told -/
def def0 : Nat → Int32 := fun k => if k = 0 then 4 else if k = 1 then 12 else if k = 2 then 4 else if k = 3 then 1 else if k = 4 then 8 else if k = 5 then 0 else if k = 6 then 1 else 1
def L0 : LN := (def0, fun _ => 85, [], [])
theorem L0_wf : LWf L0 := by
  refine ⟨⟨by decide, by decide⟩, ⟨by decide, by decide⟩, ⟨by decide, by decide⟩, ⟨by decide, by decide⟩, ⟨by decide, by decide⟩, fun h => absurd rfl h, fun h => absurd rfl h⟩
def clrM (sp : Nat) (M : Mem) : Mem := wi (wi (wi (wi (wi (wi (wi (wi M sp 0 4) sp 1 12) sp 2 4) sp 3 1) sp 4 8) sp 5 0) sp 6 1) sp 7 1
theorem clear_ok {sp : Nat} {M : Mem} : ∃ M', f_X3_clear sp M = some ((), M') ∧ (∀ k, k < 8 → M'.1 sp k = def0 k) ∧ M'.1 (sp + 1) 0 = 85 ∧ M'.1 (sp + 2) 1 = 0 ∧ M'.1 (sp + 5) 1 = 0 ∧ (∀ b k, ¬ (sp ≤ b ∧ b < sp + 8) → M'.1 b k = M.1 b k) ∧ M'.2 = M.2 := by
  have hp : ∀ M : Mem, f_X10_put (sp + 1) 16 0 85 M = some ((), wi M (sp + 1) 0 85) := fun M => put_nat (k := 0) (by decide) (by decide)
  have hc : ∀ (M : Mem) r, f_X7_clear r M = some ((), wi M r 1 0) := fun M r => rfl
  refine ⟨wi (wi (wi (clrM sp M) (sp + 1) 0 85) (sp + 2) 1 0) (sp + 5) 1 0, Wp.eq ?_, fun k hk => ?_, ?_, ?_, ?_, fun b k h => ?_, rfl⟩
  · unfold f_X3_clear
    exact Wp.nam (Wp.nam (Wp.nam (Wp.nam (Wp.nam (Wp.nam (Wp.nam (Wp.nam (Wp.cl (hp _) (Wp.cl (hc _ _) (Wp.cl (hc _ _) (Wp.ret rfl)))))))))))
  · rw [wi_rwo (by omega), wi_rwo (by omega), wi_rwo (by omega)]
    have hk' : k = 0 ∨ k = 1 ∨ k = 2 ∨ k = 3 ∨ k = 4 ∨ k = 5 ∨ k = 6 ∨ k = 7 := by omega
    unfold clrM
    rcases hk' with e | e | e | e | e | e | e | e <;> subst e <;> simp [wi, def0]
  · rw [wi_rwo (by omega), wi_rwo (by omega), wi_hit]
  · rw [wi_rwo (by omega), wi_hit]
  · rw [wi_hit]
  · rw [wi_rwo (by omega), wi_rwo (by omega), wi_rwo (by omega)]
    unfold clrM
    simp only [wi]
    rw [if_neg (by omega), if_neg (by omega), if_neg (by omega), if_neg (by omega), if_neg (by omega), if_neg (by omega), if_neg (by omega), if_neg (by omega)]
def begM (t : Nat) (N : Mem) : Mem := wi (wi (wi (wi (wi (wi (wi (wi N (t + 3) 10 4) (t + 3) 11 12) (t + 3) 12 4) (t + 3) 13 1) (t + 3) 14 8) (t + 3) 15 0) (t + 3) 16 1) (t + 3) 17 1
theorem told_ok {t : Nat} {N : Mem} : ∃ N', f_X11_beginTold t N = some ((), N') ∧ (∀ k, k < 8 → N'.1 (t + 3) (10 + k) = def0 k) ∧ N'.1 (t + 3) 18 = 0 ∧ N'.1 (t + 3) 19 = 0 ∧ N'.1 (t + 4) 16 = 85 ∧ (∀ b k, ¬ (b = t + 3 ∧ 10 ≤ k) → ¬ (b = t + 4 ∧ 16 ≤ k) → N'.1 b k = N.1 b k) ∧ N'.2 = N.2 := by
  refine ⟨wi (wi (wi (begM t N) (t + 3) 18 0) (t + 3) 19 0) (t + 4) 16 85, Wp.eq ?_, fun k hk => ?_, ?_, ?_, ?_, fun b k h1 h2 => ?_, rfl⟩
  · unfold f_X11_beginTold
    exact Wp.nam (Wp.nam (Wp.nam (Wp.nam (Wp.nam (Wp.nam (Wp.nam (Wp.nam (Wp.nam (Wp.nam (Wp.nam (Wp.ret rfl)))))))))))
  · rw [wi_rwo (by omega), wi_sl (by omega), wi_sl (by omega)]
    have hk' : k = 0 ∨ k = 1 ∨ k = 2 ∨ k = 3 ∨ k = 4 ∨ k = 5 ∨ k = 6 ∨ k = 7 := by omega
    unfold begM
    rcases hk' with e | e | e | e | e | e | e | e <;> subst e <;> simp [wi, def0]
  · rw [wi_rwo (by omega), wi_sl (by decide), wi_hit]
  · rw [wi_rwo (by omega), wi_hit]
  · rw [wi_hit]
  · unfold begM
    simp only [wi]
    rw [if_neg (by omega), if_neg (by omega), if_neg (by omega), if_neg (by omega), if_neg (by omega), if_neg (by omega), if_neg (by omega), if_neg (by omega), if_neg (by omega), if_neg (by omega), if_neg (by omega)]
/-- the reading of clauses, to its end -/
theorem read_loop {x sp len : Nat} {tp : Nat → Int32} (hs : sp = x + 3 ∨ sp = x + 11) : ∀ (m k fc fm : Nat) (M N : Mem) (st pos : Nat) (kd : Int32) (L : LN) (b : Nat), len ≤ st + m → m < fc → m < fm → LV x tp len st pos kd M N → LG x sp L M N → LWf L → TB b L → M.1 (x + 1) 10 = Int32.ofNat b → M.2.2 1 = sp → k ≤ st → ∃ M' N' v, lop2 fc (l_X6_read_43 (x + 1)) (Int32.ofNat k) M = some (v, M') ∧ frX x sp M M' ∧ frK (x + 95) N N' ∧ ((∃ L', v = 0 ∧ LG x sp L' M' N' ∧ LWf L' ∧ M'.1 (x + 1) 6 = 0 ∧ N'.1 (x + 95) 19 = 0 ∧ M'.1 (x + 1) 7 = -1 ∧ ∀ N'', f_X11_takeOver (x + 95) N' = some ((), N'') → lop2 fm (l_X11_line_57 (x + 95)) (Int32.ofNat b) N = some (0, N'')) ∨ (∃ f p, v = f ∧ DD x f p M' N' ∧ lop2 fm (l_X11_line_57 (x + 95)) (Int32.ofNat b) N = some (f, wi (wi N' (x + 95) 21 p) (x + 95 + 7) 0 (N'.1 (x + 95 + 7) 0 + 1)))) := by
  have ends : ∀ (k fc fm : Nat) (M N : Mem) (st pos : Nat) (L : LN) (b : Nat), LV x tp len st pos 0 M N → LG x sp L M N → LWf L → ∃ M' N' v, lop2 (fc + 1) (l_X6_read_43 (x + 1)) (Int32.ofNat k) M = some (v, M') ∧ frX x sp M M' ∧ frK (x + 95) N N' ∧ ((∃ L', v = 0 ∧ LG x sp L' M' N' ∧ LWf L' ∧ M'.1 (x + 1) 6 = 0 ∧ N'.1 (x + 95) 19 = 0 ∧ M'.1 (x + 1) 7 = -1 ∧ ∀ N'', f_X11_takeOver (x + 95) N' = some ((), N'') → lop2 (fm + 1) (l_X11_line_57 (x + 95)) (Int32.ofNat b) N = some (0, N'')) ∨ (∃ f p, v = f ∧ DD x f p M' N' ∧ lop2 (fm + 1) (l_X11_line_57 (x + 95)) (Int32.ofNat b) N = some (f, wi (wi N' (x + 95) 21 p) (x + 95 + 7) 0 (N'.1 (x + 95 + 7) 0 + 1)))) := fun k fc fm M N st pos L b hL hG hW => by
    refine ⟨M, N, 0, lop2_inr (Wp.eq ?_), frX.rf, frK.rf, Or.inl ⟨L, rfl, hG, hW, hL.2.2.1, hL.2.2.2.1, hL.1.1.1.2, fun N'' h => lop2_inr (Wp.eq ?_)⟩⟩
    · unfold l_X6_read_43
      have h6 := hL.2.2.1
      rw [h6]
      exact Wp.j0 (Wp.br (fun _ => Wp.ret rfl) (fun _ => Wp.ps hL.kd (Wp.ret rfl)))
    · unfold l_X11_line_57
      exact Wp.j0 (Wp.ps hL.2.2.2.1 (Wp.ps (by rw [hL.md]; rfl) (Wp.ps hL.2.2.2.1 (Wp.cl h (Wp.ret rfl)))))
  intro m
  induction m with
  | zero =>
    intro k fc fm M N st pos kd L b hm h1 h2 hL hG hW hT h10 hsp hk
    obtain ⟨fc, rfl⟩ : ∃ q, fc = q + 1 := ⟨fc - 1, by omega⟩
    obtain ⟨fm, rfl⟩ : ∃ q, fm = q + 1 := ⟨fm - 1, by omega⟩
    have hle := hL.le
    have hk0 : kd = 0 := Classical.byContradiction fun q => by
      have := hle.2.2.2 q
      omega
    subst hk0
    exact ends k fc fm M N st pos L b hL hG hW
  | succ m ih =>
    intro k fc fm M N st pos kd L b hm h1 h2 hL hG hW hT h10 hsp hk
    obtain ⟨fc, rfl⟩ : ∃ q, fc = q + 1 := ⟨fc - 1, by omega⟩
    obtain ⟨fm, rfl⟩ : ∃ q, fm = q + 1 := ⟨fm - 1, by omega⟩
    have hle := hL.le
    by_cases hk0 : kd = 0
    · subst hk0
      exact ends k fc fm M N st pos L b hL hG hW
    · have hsp0 := hle.2.2.2 hk0
      have hkm1 : ¬ kd = -1 := fun q => by
        obtain ⟨p, hp⟩ := hL.2.2.2.2
        obtain ⟨_, hp2⟩ := hp
        rcases hp2 with ⟨_, _, e⟩ | ⟨a, e, _⟩
        · exact hk0 e
        · rw [q] at e
          unfold kindP at e
          by_cases g1 : isLt (tp st)
          · rw [if_pos g1] at e; exact absurd e (by decide)
          · by_cases g2 : isDg (tp st)
            · rw [if_neg g1, if_pos g2] at e; exact absurd e (by decide)
            · by_cases g3 : isMk (tp st)
              · rw [if_neg g1, if_neg g2, if_pos g3] at e
                rw [← e] at g3
                exact absurd g3 (by decide)
              · rw [if_neg g1, if_neg g2, if_neg g3] at e; exact absurd e (by decide)
      obtain ⟨M1, N1, r, c1, c2, fX, fK, hres⟩ := clause_ok hs hsp hL hG hW hT h10
      have b1 : l_X6_read_43 (x + 1) (Int32.ofNat k) M = some (.inl (Int32.ofNat (k + 1), M1)) := by
        refine Wp.eq ?_
        unfold l_X6_read_43
        refine Wp.j0 (Wp.ng (fun g => by have := (i_lt (a := 700) (b := k) (by omega) (by omega)).mp g; omega) (Wp.ng (by rw [hL.kd]; exact hk0) (Wp.ng (by rw [hL.kd]; exact hkm1) (Wp.cl c1 (Wp.nam ?_)))))
        rw [i_ad1]
        exact Wp.ret rfl
      have b2 : l_X11_line_57 (x + 95) (Int32.ofNat b) N = some (.inl (r, N1)) := by
        refine Wp.eq ?_
        unfold l_X11_line_57
        exact Wp.j0 (Wp.ps hL.2.2.2.1 (Wp.ng (by rw [hL.md]; exact fun q => hk0 (md_is.2.2.mp q)) (Wp.cl c2 (Wp.ret rfl))))
      rcases hres with ⟨st1, pos1, kd1, L1, b', hL1, hG1, hW1, hT1, h10', hr, hst⟩ | ⟨f, p, hD⟩
      · subst hr
        obtain ⟨M2, N2, v, d1, d2, d3, d4⟩ := ih (k + 1) fc fm M1 N1 st1 pos1 kd1 L1 b' (by omega) (by omega) (by omega) hL1 hG1 hW1 hT1 h10' (fX.2.2.2.trans hsp) (by omega)
        refine ⟨M2, N2, v, (lop2_inl b1).trans d1, fX.tr d2, fK.tr d3, ?_⟩
        rcases d4 with ⟨L', e1, e2, e3, e4, e5, e6, e7⟩ | ⟨f, p, e1, e2, e3⟩
        · exact Or.inl ⟨L', e1, e2, e3, e4, e5, e6, fun N'' h => (lop2_inl b2).trans (e7 N'' h)⟩
        · exact Or.inr ⟨f, p, e1, e2, (lop2_inl b2).trans e3⟩
      · obtain ⟨fc, rfl⟩ : ∃ q, fc = q + 1 := ⟨fc - 1, by omega⟩
        obtain ⟨fm, rfl⟩ : ∃ q, fm = q + 1 := ⟨fm - 1, by omega⟩
        refine ⟨M1, N1, f, (lop2_inl b1).trans (lop2_inr (Wp.eq ?_)), fX, fK, Or.inr ⟨f, p, rfl, hD, (lop2_inl b2).trans (lop2_inr (Wp.eq ?_))⟩⟩
        · unfold l_X6_read_43
          rw [hD.2.1]
          exact Wp.j0 (Wp.br (fun _ => Wp.ret rfl) (fun _ => Wp.ng (by rw [hD.2.2.2.1]; decide) (Wp.ps hD.2.2.2.1 (Wp.ret rfl))))
        · unfold l_X11_line_57
          refine Wp.j0 (Wp.ng hD.n19 (Wp.ng hD.n19 (Wp.nam ?_)))
          rw [hD.2.2.2.2.2]
          have e7 : (wi N1 (x + 95) 21 p).1 (x + 95 + 7) 0 = N1.1 (x + 95 + 7) 0 := by rw [wi_rwo (by omega)]
          refine Wp.nam ?_
          have e19 : (wi (wi N1 (x + 95) 21 p) (x + 95 + 7) 0 ((wi N1 (x + 95) 21 p).1 (x + 95 + 7) 0 + 1)).1 (x + 95) 19 = f := by rw [wi_rwo (by omega), wi_sl (by decide)]; exact hD.2.2.2.2.1
          rw [e19, e7]
          exact Wp.ret rfl
