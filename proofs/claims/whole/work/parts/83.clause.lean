/-! The reader: clauses, and a whole line -/
theorem bits1 : ∀ c, c < 9 → ∀ b, b < 512 → (((Int32.ofNat b >>> (Int32.ofNat c &&& 31)) &&& 1) = 0 ↔ b / 2 ^ c % 2 = 0) := by decide +kernel
theorem bits2 : ∀ c, c < 9 → ∀ b, b < 512 → (((Int32.ofNat b >>> (Int32.ofNat c &&& 31)) &&& 1) = 1 ↔ ¬ b / 2 ^ c % 2 = 0) := by decide +kernel
theorem bits3 : ∀ c, c < 9 → ∀ b, b < 512 → (Int32.ofNat b ||| ((1 : Int32) <<< (Int32.ofNat c &&& 31))) = Int32.ofNat (Nat.lor b (2 ^ c)) := by decide +kernel
theorem bits4 : ∀ c, c < 9 → ∀ b, b < 512 → Nat.lor b (2 ^ c) < 512 := by decide +kernel
theorem bits5 : ∀ c, c < 9 → ∀ b, b < 512 → (Nat.lor b (2 ^ c) / 128 % 2 = 0 → ¬ c = 7 ∧ b / 128 % 2 = 0) := by decide +kernel
theorem bits6 : ∀ c, c < 9 → ∀ b, b < 512 → (Nat.lor b (2 ^ c) / 256 % 2 = 0 → ¬ c = 8 ∧ b / 256 % 2 = 0) := by decide +kernel
def TB (b : Nat) (L : LN) : Prop := b < 512 ∧ (b / 128 % 2 = 0 → L.2.2.1 = []) ∧ (b / 256 % 2 = 0 → L.2.2.2 = [])
theorem clause_here {x : Nat} {M : Mem} {v : Nat → Int32} (hv : ∀ k, k < 9 → f_X6_isWord (x + 1) (4 + k + 16) M = some (v k, M)) {w : Int32} (hw : (w = -1 ∧ ∀ j, j < 9 → v j = 0) ∨ ∃ j, j < 9 ∧ w = Int32.ofNat j ∧ ¬ v j = 0 ∧ ∀ i, i < j → v i = 0) : f_X6_clauseHere (x + 1) M = some (w, M) := by
  have v0 := hv 0 (by decide)
  have v1 := hv 1 (by decide)
  have v2 := hv 2 (by decide)
  have v3 := hv 3 (by decide)
  have v4 := hv 4 (by decide)
  have v5 := hv 5 (by decide)
  have v6 := hv 6 (by decide)
  have v7 := hv 7 (by decide)
  have v8 := hv 8 (by decide)
  refine Wp.eq ?_
  unfold f_X6_clauseHere
  rcases hw with ⟨e, hz⟩ | ⟨j, hj, e, h1, hz⟩
  · subst e
    exact Wp.cl v0 (Wp.ps (hz 0 (by decide)) (Wp.cl v1 (Wp.ps (hz 1 (by decide)) (Wp.cl v2 (Wp.ps (hz 2 (by decide)) (Wp.cl v3 (Wp.ps (hz 3 (by decide)) (Wp.cl v4 (Wp.ps (hz 4 (by decide)) (Wp.cl v5 (Wp.ps (hz 5 (by decide)) (Wp.cl v6 (Wp.ps (hz 6 (by decide)) (Wp.cl v7 (Wp.ps (hz 7 (by decide)) (Wp.cl v8 (Wp.j1 (Wp.ps (hz 8 (by decide)) (Wp.ret rfl)))))))))))))))))))
  · subst e
    have hj' : j = 0 ∨ j = 1 ∨ j = 2 ∨ j = 3 ∨ j = 4 ∨ j = 5 ∨ j = 6 ∨ j = 7 ∨ j = 8 := by omega
    rcases hj' with e | e | e | e | e | e | e | e | e <;> subst e
    · exact Wp.cl v0 (Wp.ng h1 (Wp.ret rfl))
    · exact Wp.cl v0 (Wp.ps (hz 0 (by decide)) (Wp.cl v1 (Wp.ng h1 (Wp.ret rfl))))
    · exact Wp.cl v0 (Wp.ps (hz 0 (by decide)) (Wp.cl v1 (Wp.ps (hz 1 (by decide)) (Wp.cl v2 (Wp.ng h1 (Wp.ret rfl))))))
    · exact Wp.cl v0 (Wp.ps (hz 0 (by decide)) (Wp.cl v1 (Wp.ps (hz 1 (by decide)) (Wp.cl v2 (Wp.ps (hz 2 (by decide)) (Wp.cl v3 (Wp.ng h1 (Wp.ret rfl))))))))
    · exact Wp.cl v0 (Wp.ps (hz 0 (by decide)) (Wp.cl v1 (Wp.ps (hz 1 (by decide)) (Wp.cl v2 (Wp.ps (hz 2 (by decide)) (Wp.cl v3 (Wp.ps (hz 3 (by decide)) (Wp.cl v4 (Wp.ng h1 (Wp.ret rfl))))))))))
    · exact Wp.cl v0 (Wp.ps (hz 0 (by decide)) (Wp.cl v1 (Wp.ps (hz 1 (by decide)) (Wp.cl v2 (Wp.ps (hz 2 (by decide)) (Wp.cl v3 (Wp.ps (hz 3 (by decide)) (Wp.cl v4 (Wp.ps (hz 4 (by decide)) (Wp.cl v5 (Wp.ng h1 (Wp.ret rfl))))))))))))
    · exact Wp.cl v0 (Wp.ps (hz 0 (by decide)) (Wp.cl v1 (Wp.ps (hz 1 (by decide)) (Wp.cl v2 (Wp.ps (hz 2 (by decide)) (Wp.cl v3 (Wp.ps (hz 3 (by decide)) (Wp.cl v4 (Wp.ps (hz 4 (by decide)) (Wp.cl v5 (Wp.ps (hz 5 (by decide)) (Wp.cl v6 (Wp.ng h1 (Wp.ret rfl))))))))))))))
    · exact Wp.cl v0 (Wp.ps (hz 0 (by decide)) (Wp.cl v1 (Wp.ps (hz 1 (by decide)) (Wp.cl v2 (Wp.ps (hz 2 (by decide)) (Wp.cl v3 (Wp.ps (hz 3 (by decide)) (Wp.cl v4 (Wp.ps (hz 4 (by decide)) (Wp.cl v5 (Wp.ps (hz 5 (by decide)) (Wp.cl v6 (Wp.ps (hz 6 (by decide)) (Wp.cl v7 (Wp.ng h1 (Wp.ret rfl))))))))))))))))
    · exact Wp.cl v0 (Wp.ps (hz 0 (by decide)) (Wp.cl v1 (Wp.ps (hz 1 (by decide)) (Wp.cl v2 (Wp.ps (hz 2 (by decide)) (Wp.cl v3 (Wp.ps (hz 3 (by decide)) (Wp.cl v4 (Wp.ps (hz 4 (by decide)) (Wp.cl v5 (Wp.ps (hz 5 (by decide)) (Wp.cl v6 (Wp.ps (hz 6 (by decide)) (Wp.cl v7 (Wp.ps (hz 7 (by decide)) (Wp.cl v8 (Wp.j1 (Wp.ng h1 (Wp.ret rfl)))))))))))))))))))
/-- a rule clause's body, read by both -/
theorem rule_ok {x sp i : Nat} {tp : Nat → Int32} {len st pos : Nat} {kd : Int32} {L : LN} {M N : Mem} (hi : i ≤ 1) (hs : sp = x + 3 ∨ sp = x + 11) (hL : LV x tp len st pos kd M N) (hG : LG x sp L M N) (hW : LWf L) (hE : (if i = 0 then L.2.2.1 else L.2.2.2) = []) : ∃ M' N', f_X6_readExpr 80 (x + 1) 0 0 (wd M 2 (sp + 2 + 3 * i)) = some ((), M') ∧ f_X11_readExpression 80 (x + 95) 0 (wi N (x + 95) 10 (Int32.ofNat i)) = some ((), N') ∧ frL x sp M M' ∧ frK (x + 95) N N' ∧ ((∃ st' pos' kd' ds, LV x tp len st' pos' kd' M' N' ∧ st < st' ∧ ¬ ds = [] ∧ dpl ds 0 = some 1 ∧ LG x sp (L.1, L.2.1, if i = 0 then ds else L.2.2.1, if i = 0 then L.2.2.2 else ds) M' N') ∨ (∃ f p, DD x f p M' N')) := by
  have fw : frL x sp M (wd M 2 (sp + 2 + 3 * i)) := ⟨fun _ _ _ _ => rfl, rfl, rfl, rfl⟩
  have fn : frK (x + 95) N (wi N (x + 95) 10 (Int32.ofNat i)) := wiK (by omega)
  have hL1 : LV x tp len st pos kd (wd M 2 (sp + 2 + 3 * i)) (wi N (x + 95) 10 (Int32.ofNat i)) := hL.cg (fun _ _ _ => rfl) (fun b k hb => by
    simp only [wi]
    rw [if_neg (by omega)])
  have hG1 : LG x sp L (wd M 2 (sp + 2 + 3 * i)) (wi N (x + 95) 10 (Int32.ofNat i)) := hG.cg (fun _ _ _ _ => rfl) (fun b k hb => by rw [wi_rwo (by omega)])
  obtain ⟨g1, g2, g3, g4, g5, g6⟩ := hG1
  have hR : RX x sp i [] (wd M 2 (sp + 2 + 3 * i)) (wi N (x + 95) 10 (Int32.ofNat i)) := by
    have hi' : i = 0 ∨ i = 1 := by omega
    refine ⟨hi, hs, rfl, ?_, wi_hit, ?_, fun j hj => absurd hj (Nat.not_lt_zero _)⟩
    · rcases hi' with e | e <;> subst e
      · rw [if_pos rfl] at hE
        rw [hE] at g3
        exact g3
      · rw [if_neg (by decide)] at hE
        rw [hE] at g4
        exact g4
    · rcases hi' with e | e <;> subst e
      · rw [if_pos rfl] at hE
        rw [hE] at g5
        exact g5.1
      · rw [if_neg (by decide)] at hE
        rw [hE] at g6
        exact g6.1
  obtain ⟨M', N', e1, e2, fE, fG, hres⟩ := ex_rule (x := x) (sp := sp) (i := i) (len := len) (tp := tp) _ _ st pos kd [] hL1 hR (Nat.zero_le _)
  refine ⟨M', N', e1, e2, fw.tr (fE.L hi), fn.tr (fG.K hi), ?_⟩
  rcases hres with ⟨st2, pos2, kd2, ds, hL2, hR2, hst, hne, hd⟩ | h
  · rw [List.nil_append] at hR2
    have hlen : 0 < ds.length := by
      cases ds with
      | nil => exact absurd rfl hne
      | cons a l => exact Nat.succ_pos _
    refine Or.inl ⟨st2, pos2, kd2, ds, hL2, by omega, hne, hd 0 (Nat.le_refl _), ?_⟩
    obtain ⟨r1, r2, r3, r4, r5, r6, r7⟩ := hR2
    have hi' : i = 0 ∨ i = 1 := by omega
    obtain ⟨a1, a2, a3⟩ := g3
    obtain ⟨b1, b2, b3⟩ := g4
    rcases hi' with e | e <;> subst e
    · refine ⟨fun k hk => ?_, fun k hk => ?_, r4, ⟨?_, b2, fun j hj => ?_⟩, ⟨r6, r7⟩, ⟨?_, fun j hj => ?_⟩⟩
      · rw [fE.1 _ _ (by omega) (by omega) (by omega), fG.1 _ _ (by omega) (by omega) (by omega)]; exact g1 k hk
      · rw [fE.1 _ _ (by omega) (by omega) (by omega), fG.1 _ _ (by omega) (by omega) (by omega)]; exact g2 k hk
      · rw [fE.1 _ _ (by omega) (by omega) (by omega)]; exact b1
      · rw [fE.1 _ _ (by omega) (by omega) (by omega)]; exact b3 j hj
      · rw [fG.1 _ _ (by omega) (by omega) (by omega)]; exact g6.1
      · rw [fG.1 _ _ (by omega) (by omega) (by omega)]; exact g6.2 j hj
    · refine ⟨fun k hk => ?_, fun k hk => ?_, ⟨?_, a2, fun j hj => ?_⟩, r4, ⟨?_, fun j hj => ?_⟩, ⟨r6, r7⟩⟩
      · rw [fE.1 _ _ (by omega) (by omega) (by omega), fG.1 _ _ (by omega) (by omega) (by omega)]; exact g1 k hk
      · rw [fE.1 _ _ (by omega) (by omega) (by omega), fG.1 _ _ (by omega) (by omega) (by omega)]; exact g2 k hk
      · rw [fE.1 _ _ (by omega) (by omega) (by omega)]; exact a1
      · rw [fE.1 _ _ (by omega) (by omega) (by omega)]; exact a3 j hj
      · rw [fG.1 _ _ (by omega) (by omega) (by omega)]; exact g5.1
      · rw [fG.1 _ _ (by omega) (by omega) (by omega)]; exact g5.2 j hj
  · exact Or.inr h
/-- what a clause comes to -/
def CR (x sp : Nat) (tp : Nat → Int32) (len st0 : Nat) (M0 N0 M N : Mem) (r : Int32) : Prop := frX x sp M0 M ∧ frK (x + 95) N0 N ∧ ((∃ st pos kd L b, LV x tp len st pos kd M N ∧ LG x sp L M N ∧ LWf L ∧ TB b L ∧ M.1 (x + 1) 10 = Int32.ofNat b ∧ r = Int32.ofNat b ∧ st0 < st) ∨ (∃ f p, DD x f p M N))
theorem clause_ok {x sp b : Nat} {tp : Nat → Int32} {len st pos : Nat} {kd : Int32} {L : LN} {M N : Mem} (hs : sp = x + 3 ∨ sp = x + 11) (hsp : M.2.2 1 = sp) (hL : LV x tp len st pos kd M N) (hG : LG x sp L M N) (hW : LWf L) (hT : TB b L) (h10 : M.1 (x + 1) 10 = Int32.ofNat b) : ∃ M' N' r, f_X6_readClause (x + 1) M = some ((), M') ∧ f_X11_readLine (x + 95) (Int32.ofNat b) N = some (r, N') ∧ CR x sp tp len st M N M' N' r := by
  obtain ⟨v, hv1, hv2, hv01, hv3⟩ := hL.words (o := 4) (n := 9) (by decide)
  obtain ⟨w, w1, w2⟩ := which_ok (t := x + 95) (o := 4) (n := 9) hv2 (by decide) 9 0 FU (by omega) (by unfold FU; omega) (fun j hj => by omega)
  have hcl := clause_here hv1 w2
  have hwh : f_X11_which (x + 95) (x + 95 + 2) 4 9 N = some (w, N) := w1
  have h19 := hL.2.2.2.1
  rcases w2 with ⟨ew, hz⟩ | ⟨c, hc, ew, hnz, hz⟩
  · obtain ⟨M', N', f1, f2, hD, fR, fT⟩ := hL.fail (f := 1) (by decide)
    refine ⟨M', N', Int32.ofNat b, Wp.eq ?_, Wp.eq ?_, fR.L.X, fT.K, Or.inr ⟨1, _, hD⟩⟩
    · unfold f_X6_readClause
      exact Wp.cl hcl (Wp.ps ew (Wp.cl f1 (Wp.ret rfl)))
    · unfold f_X11_readLine
      exact Wp.cl hwh (Wp.j1 (Wp.ps ew (Wp.cl f2 (Wp.ng hD.n19 (Wp.ret rfl)))))
  · subst ew
    have nw : ¬ Int32.ofNat c = -1 := ofn_ne (by omega)
    have bt0 := bits1 c hc b hT.1
    have bt1 := bits2 c hc b hT.1
    have bor := bits3 c hc b hT.1
    have blt := bits4 c hc b hT.1
    have bt7 := bits5 c hc b hT.1
    have bt8 := bits6 c hc b hT.1
    have hkd : kd = 2 := hv3 c hc ((hv01 c hc).resolve_left hnz)
    have hle := hL.le
    have hspo := hle.2.2.2 (by rw [hkd]; decide)
    by_cases hb : b / 2 ^ c % 2 = 0
    · have cb0 := bt0.mpr hb
      have mb0 : f_X11_isOf (Int32.ofNat b) (Int32.ofNat c) N = some (0, N) := by
        refine Wp.eq ?_
        unfold f_X11_isOf
        exact Wp.j1 (Wp.ng (fun q => bt1.mp q hb) (Wp.gp (Or.inl rfl) (Wp.ret rfl)))
      have hL0 : LV x tp len st pos kd (wi M (x + 1) 10 (Int32.ofNat (Nat.lor b (2 ^ c)))) N := ⟨⟨hL.1.1.w (by decide), by rw [wi_sl (by decide)]; exact hL.1.2.1, by rw [wi_sl (by decide)]; exact hL.1.2.2.1, by rw [wi_sl (by decide)]; exact hL.1.2.2.2⟩, hL.2.1, by rw [wi_sl (by decide)]; exact hL.2.2.1, hL.2.2.2⟩
      have fw : frX x sp M (wi M (x + 1) 10 (Int32.ofNat (Nat.lor b (2 ^ c)))) := ⟨fun a j h _ => by
        simp only [wi]
        rw [if_neg (by omega)], rfl, rfl, rfl⟩
      have hG0 : LG x sp L (wi M (x + 1) 10 (Int32.ofNat (Nat.lor b (2 ^ c)))) N := hG.cg (fun a j _ _ => by rw [wi_rwo (by omega)]) (fun _ _ _ => rfl)
      obtain ⟨st1, pos1, kd1, M1, N1, a1, a2, hL1, hp1, fR1, fT1⟩ := hL0.adv
      have hG1 := hG0.RT hs fR1 fT1
      have h10' : M1.1 (x + 1) 10 = Int32.ofNat (Nat.lor b (2 ^ c)) := by rw [fR1.1 _ _ (by omega), wi_hit]
      have fC1 := fw.tr (fR1.L (sp := sp)).X
      have hsp1 : M1.2.2 1 = sp := fC1.2.2.2.trans hsp
      have gd := spgd hs hsp1
      -- what follows a clause's body
      have cls : ∀ M2 M3, (c = 7 → f_X6_readExpr 80 (x + 1) 0 0 (wd M1 2 (sp + 2 + 3 * 0)) = some ((), M2)) → (c = 8 → f_X6_readExpr 80 (x + 1) 0 0 (wd M1 2 (sp + 2 + 3 * 1)) = some ((), M2)) → (c < 7 → f_X6_readSetting (x + 1) (Int32.ofNat c) M1 = some ((), M2)) → f_X6_passSign (x + 1) 59 M2 = some ((), M3) → f_X6_readClause (x + 1) M = some ((), M3) := fun M2 M3 q7 q8 q q3 => by
        refine Wp.eq ?_
        unfold f_X6_readClause
        refine Wp.cl hcl (Wp.ng nw ?_)
        rw [h10]
        refine Wp.ps cb0 ?_
        rw [bor]
        refine Wp.nam (Wp.cl a1 (Wp.j1 (Wp.j0 ?_)))
        by_cases g7 : c = 7
        · subst g7
          have q7' := q7 rfl
          refine Wp.ps rfl (Wp.j1 (Wp.ps rfl (Wp.gp gd ?_)))
          rw [hsp1]
          exact Wp.nam (Wp.cl q7' (Wp.cl q3 (Wp.ret rfl)))
        · have n7 : ¬ Int32.ofNat c = 7 := fun e => by
            have := congrArg Int32.toInt e
            rw [ti_nat (by omega)] at this
            have e7 : (7 : Int32).toInt = 7 := rfl
            omega
          by_cases g8 : c = 8
          · subst g8
            have q8' := q8 rfl
            refine Wp.ng n7 (Wp.ps rfl (Wp.j1 (Wp.ng n7 (Wp.gp gd ?_))))
            rw [hsp1]
            exact Wp.nam (Wp.cl q8' (Wp.cl q3 (Wp.ret rfl)))
          · have n8 : ¬ Int32.ofNat c = 8 := fun e => by
              have := congrArg Int32.toInt e
              rw [ti_nat (by omega)] at this
              have e8 : (8 : Int32).toInt = 8 := rfl
              omega
            exact Wp.ng n7 (Wp.ng n8 (Wp.cl (q (by omega)) (Wp.cl q3 (Wp.ret rfl))))
      have mdl : ∀ N2 N3, f_X11_readClause (x + 95) (Int32.ofNat c) N1 = some ((), N2) → f_X11_mark (x + 95) 59 N2 = some ((), N3) → f_X11_readLine (x + 95) (Int32.ofNat b) N = some (Int32.ofNat (Nat.lor b (2 ^ c)), N3) := fun N2 N3 q q3 => by
        refine Wp.eq ?_
        unfold f_X11_readLine
        exact Wp.cl hwh (Wp.j1 (Wp.ng nw (Wp.cl mb0 (Wp.ps rfl (Wp.ps h19 (Wp.cl a2 (Wp.cl q (Wp.cl q3 (Wp.ret (by rw [bor]))))))))))
      have fin : ∀ M2 N2, frL x sp M1 M2 → frK (x + 95) N1 N2 → (∀ M3, f_X6_passSign (x + 1) 59 M2 = some ((), M3) → f_X6_readClause (x + 1) M = some ((), M3)) → f_X11_readClause (x + 95) (Int32.ofNat c) N1 = some ((), N2) → ((∃ st' pos' kd' L', LV x tp len st' pos' kd' M2 N2 ∧ LG x sp L' M2 N2 ∧ LWf L' ∧ TB (Nat.lor b (2 ^ c)) L' ∧ st < st') ∨ (∃ f p, DD x f p M2 N2)) → ∃ M' N' r, f_X6_readClause (x + 1) M = some ((), M') ∧ f_X11_readLine (x + 95) (Int32.ofNat b) N = some (r, N') ∧ CR x sp tp len st M N M' N' r := fun M2 N2 fM fN q1 q2 hres => by
        have h10'' : M2.1 (x + 1) 10 = Int32.ofNat (Nat.lor b (2 ^ c)) := by rw [fM.1 _ _ (by omega) (by omega)]; exact h10'
        rcases hres with ⟨st2, pos2, kd2, L2, hL2, hG2, hW2, hT2, hst2⟩ | ⟨f, p, hD⟩
        · obtain ⟨M3, N3, g1, g2, fR3, fT3, h3⟩ := hL2.sign (c := 59) (by decide)
          have hle2 := hL2.le
          refine ⟨M3, N3, _, q1 _ g1, mdl _ _ q2 g2, (fC1.tr fM.X).tr fR3.L.X, (fT1.K.tr fN).tr fT3.K, ?_⟩
          rcases h3 with ⟨_, st3, pos3, kd3, hL3, hp3⟩ | ⟨_, hD⟩
          · exact Or.inl ⟨st3, pos3, kd3, L2, _, hL3, hG2.RT hs fR3 fT3, hW2, hT2, by rw [fR3.1 _ _ (by omega)]; exact h10'', rfl, by omega⟩
          · exact Or.inr ⟨1, _, hD⟩
        · obtain ⟨g1, g2⟩ := hD.sign (c := 59) (by decide)
          exact ⟨M2, N2, _, q1 _ g1, mdl _ _ q2 g2, fC1.tr fM.X, fT1.K.tr fN, Or.inr ⟨f, p, hD⟩⟩
      by_cases g7 : c = 7
      · subst g7
        obtain ⟨M2, N2, r1, r2, fM, fN, hres⟩ := rule_ok (i := 0) (by decide) hs hL1 hG1 hW (by rw [if_pos rfl]; exact hT.2.1 hb)
        refine fin M2 N2 fM fN (fun M3 q => cls M2 M3 (fun _ => r1) (fun e => absurd e (by decide)) (fun e => absurd e (by decide)) q) ?_ ?_
        · refine Wp.eq ?_
          unfold f_X11_readClause
          exact Wp.j1 (Wp.ng (by decide) (Wp.j1 (Wp.ng (by decide) (Wp.j1 (Wp.ng (by decide) (Wp.j1 (Wp.ng (by decide) (Wp.j1 (Wp.ng (by decide) (Wp.j1 (Wp.ng (by decide) (Wp.j1 (Wp.ng (by decide) (Wp.ps (by decide) (Wp.j1 (Wp.ng (by decide) (Wp.gp (Or.inl rfl) (Wp.nam (Wp.cl r2 (Wp.ret rfl))))))))))))))))))))
        · rcases hres with ⟨st2, pos2, kd2, ds, q1, q2, q3, q4, q5⟩ | h
          · refine Or.inl ⟨st2, pos2, kd2, _, q1, q5, ?_, ⟨blt, fun e => absurd rfl (bt7 e).1, fun e => hT.2.2 (bt8 e).2⟩, by omega⟩
            obtain ⟨w1, w2, w3, w4, w5, w6, w7⟩ := hW
            exact ⟨w1, w2, w3, w4, w5, fun _ => q4, w7⟩
          · exact Or.inr h
      · by_cases g8 : c = 8
        · subst g8
          obtain ⟨M2, N2, r1, r2, fM, fN, hres⟩ := rule_ok (i := 1) (by decide) hs hL1 hG1 hW (by rw [if_neg (by decide)]; exact hT.2.2 hb)
          refine fin M2 N2 fM fN (fun M3 q => cls M2 M3 (fun e => absurd e (by decide)) (fun _ => r1) (fun e => absurd e (by decide)) q) ?_ ?_
          · refine Wp.eq ?_
            unfold f_X11_readClause
            exact Wp.j1 (Wp.ng (by decide) (Wp.j1 (Wp.ng (by decide) (Wp.j1 (Wp.ng (by decide) (Wp.j1 (Wp.ng (by decide) (Wp.j1 (Wp.ng (by decide) (Wp.j1 (Wp.ng (by decide) (Wp.j1 (Wp.ng (by decide) (Wp.ps (by decide) (Wp.j1 (Wp.ps rfl (Wp.gp (Or.inr rfl) (Wp.nam (Wp.cl r2 (Wp.ret rfl))))))))))))))))))))
          · rcases hres with ⟨st2, pos2, kd2, ds, q1, q2, q3, q4, q5⟩ | h
            · refine Or.inl ⟨st2, pos2, kd2, _, q1, q5, ?_, ⟨blt, fun e => hT.2.1 (bt7 e).2, fun e => absurd rfl (bt8 e).1⟩, by omega⟩
              obtain ⟨w1, w2, w3, w4, w5, w6, w7⟩ := hW
              exact ⟨w1, w2, w3, w4, w5, w6, fun _ => q4⟩
            · exact Or.inr h
        · obtain ⟨M2, N2, r1, r2, fM, fN, hres⟩ := setting hs hsp1 (show c < 7 by omega) hL1 hG1 hW
          refine fin M2 N2 fM fN (fun M3 q => cls M2 M3 (fun e => absurd e g7) (fun e => absurd e g8) (fun _ => r1) q) r2 ?_
          rcases hres with ⟨st2, pos2, kd2, L2, q1, q2, q3, q4, q5⟩ | h
          · exact Or.inl ⟨st2, pos2, kd2, L2, q1, q2, q3, ⟨blt, fun e => by rw [q4]; exact hT.2.1 (bt7 e).2, fun e => by rw [q4]; exact hT.2.2 (bt8 e).2⟩, by omega⟩
          · exact Or.inr h
    · have cb1 : ¬ ((Int32.ofNat b >>> (Int32.ofNat c &&& 31)) &&& 1) = 0 := fun q => hb (bt0.mp q)
      have mb1 : f_X11_isOf (Int32.ofNat b) (Int32.ofNat c) N = some (1, N) := by
        refine Wp.eq ?_
        unfold f_X11_isOf
        exact Wp.j1 (Wp.ps (bt1.mpr hb) (Wp.gp (Or.inr rfl) (Wp.ret rfl)))
      obtain ⟨M', N', f1, f2, hD, fR, fT⟩ := hL.fail (f := 5) (by decide)
      refine ⟨M', N', Int32.ofNat b, Wp.eq ?_, Wp.eq ?_, fR.L.X, fT.K, Or.inr ⟨5, _, hD⟩⟩
      · unfold f_X6_readClause
        refine Wp.cl hcl (Wp.ng nw ?_)
        rw [h10]
        exact Wp.ng cb1 (Wp.cl f1 (Wp.ret rfl))
      · unfold f_X11_readLine
        exact Wp.cl hwh (Wp.j1 (Wp.ng nw (Wp.cl mb1 (Wp.ng (by decide) (Wp.cl f2 (Wp.ng hD.n19 (Wp.ret rfl)))))))
