theorem acp_w : Cond.native arraycopyName ∈ gw ∧ Cond.static arraycopyName ∈ gw ∧ Cond.initialized "java/lang/System" ∈ gw := ⟨gin 813 (by decide +kernel) rfl, gin 812 (by decide +kernel) rfl, gin 113 (by decide +kernel) rfl⟩
def wcp (M : Mem) (a0 a : Nat) (sp dp n : Int32) : Mem := (fun b j => if b = a then va_cpy (M.1 a0) (M.1 a) sp.toNatClampNeg dp.toNatClampNeg n.toNatClampNeg j else M.1 b j, M.2)
theorem cellM_wcp_ne {G : Ctx} {M : Mem} {a0 a b : Nat} {sp dp n : Int32} (h : b ≠ a) : cellM G (wcp M a0 a sp dp n) b = cellM G M b := by
  have h1 : (wcp M a0 a sp dp n).1 b = M.1 b := by funext j; simp [wcp, h]
  have h2 : ∀ ci, flds (wcp M a0 a sp dp n) b ci = flds M b ci := fun ci => by
    simp only [flds]
    apply List.map_congr_left
    intro j _
    simp only [fvl, h1]
    rfl
  unfold cellM
  rw [h1]
  simp only [h2]
  rfl
theorem bl_n {v : Int32} (hv : v = 0 ∨ v = 1) : narrow .boolean (.int v) = .int v ∧ fits .boolean (.int v) = true ∧ vp_nar .boolean v = v := by rcases hv with rfl | rfl <;> decide
theorem nn_z {z : Int32} (h : 0 ≤ z.toInt) : ¬ z < 0 ∧ (z.toNatClampNeg : Int) = z.toInt := by
  refine ⟨by rw [Int32.lt_iff_toInt_lt]; simpa using h, ?_⟩
  show ((z.toInt.toNat : Nat) : Int) = z.toInt
  omega
theorem fl_setd {M : Mem} {a ci k j v : Nat} (hk : fkd ci k = (2, j)) (hu : ∀ k', k' < nfl ci → k' ≠ k → (fkd ci k').1 ≤ 1 ∨ (fkd ci k').2 ≠ j) : (flds M a ci).set k (.ref v) = flds (wd M j v) a ci := by
  apply List.ext_getElem?
  intro i
  by_cases hi : i = k
  · subst hi
    by_cases hl : i < nfl ci
    · rw [List.getElem?_set_self (by simpa [flds] using hl), fl_get hl]
      simp [fvl, hk, wd]
    · have h1 : (flds M a ci).length ≤ i := by simp [flds]; omega
      have h2 : (flds (wd M j v) a ci).length ≤ i := by simp [flds]; omega
      rw [List.getElem?_eq_none (by simpa using h1), List.getElem?_eq_none h2]
  · rw [List.getElem?_set_ne (Ne.symm hi)]
    by_cases hl : i < nfl ci
    · rw [fl_get hl, fl_get hl]
      have h9 := hu i hl hi
      unfold fvl
      rcases hz : (fkd ci i).1 with _ | _ | t
      · simp [wd]
      · simp [wd]
      · have : (fkd ci i).2 ≠ j := by rw [hz] at h9; omega
        simp [wd, this]
    · have h1 : (flds M a ci).length ≤ i := by simp [flds]; omega
      have h2 : (flds (wd M j v) a ci).length ≤ i := by simp [flds]; omega
      rw [List.getElem?_eq_none h1, List.getElem?_eq_none h2]
theorem fl_eqd {M : Mem} {a ci j v : Nat} (hu : ∀ k', k' < nfl ci → (fkd ci k').1 ≤ 1 ∨ (fkd ci k').2 ≠ j) : flds (wd M j v) a ci = flds M a ci := by
  simp only [flds]
  apply List.map_congr_left
  intro i hi
  have h9 := hu i (List.mem_range.mp hi)
  unfold fvl
  rcases hz : (fkd ci i).1 with _ | _ | t
  · simp [wd]
  · simp [wd]
  · have : (fkd ci i).2 ≠ j := by rw [hz] at h9; omega
    simp [wd, this]
theorem hs2 {G : Ctx} {x a b : Nat} {t : Nat × Nat} (hc : x = a ∨ x = b) (ha : hs G a t) (hb : hs G b t) : hs G x t := by rcases hc with rfl | rfl <;> assumption
theorem hs4 {G : Ctx} {x a b c d : Nat} {t : Nat × Nat} (hx : x = a ∨ x = b ∨ x = c ∨ x = d) (ha : hs G a t) (hb : hs G b t) (hc : hs G c t) (hd : hs G d t) : hs G x t := by rcases hx with rfl | rfl | rfl | rfl <;> assumption
theorem E.imp {τ : Type} {Φ : τ → Prop} {o : Option τ} {A X : Prop} (h : A → E Φ o X) : E Φ o (A → X) := fun t e p a => h a t e p
theorem E.sw {τ : Type} {Φ : τ → Prop} {o1 o2 : Option τ} {c X1 X : Prop} [Decidable c] (hx : c → X1 → X) (k1 : E Φ o1 X1) (k2 : ¬ c → E Φ o2 X) : E Φ (if c then o1 else o2) X := fun t h p => by
  by_cases hc : c
  · rw [if_pos hc] at h
    exact hx hc (k1 t h p)
  · rw [if_neg hc] at h
    exact k2 hc t h p
section RB2
variable {G : Ctx} {cc : ByteArray} {own : String} {nL F Lo : Nat} {w : Mem → Nat → List (Nat × Value) → List Value → Prop} {M : Mem} {pc : Nat} {ls : List (Nat × Value)} {st : List Value}
theorem Rb.puti (h : Rb G cc own nL F Lo w) {a ci k idx : Nat} {v : Int32} (ha : hs G a (0, ci)) (hf : FP own idx ci k .int) (hk0 : (fkd ci k).1 = 0) (d : decode cc pc = .ok (.putfield idx, 3)) (kk : w (wi M a k v) (pc + 3) ls st) : w M pc ls (.int v :: .ref a :: st) := h.put ha hf hk0 d rfl rfl kk
theorem Rb.putz (h : Rb G cc own nL F Lo w) {a ci k idx : Nat} {v : Int32} (ha : hs G a (0, ci)) (hf : FP own idx ci k .boolean) (hk0 : (fkd ci k).1 = 0) (d : decode cc pc = .ok (.putfield idx, 3)) (hv : v = 0 ∨ v = 1) (kk : w (wi M a k v) (pc + 3) ls st) : w M pc ls (.int v :: .ref a :: st) := h.put ha hf hk0 d (bl_n hv).1 (bl_n hv).2.1 kk
theorem Rb.zast (h : Rb G cc own nL F Lo w) {a n : Nat} {i v : Int32} (ha : hs G a (2, n)) (hi : 0 ≤ i.toInt ∧ i.toInt < n) (hv : v = 0 ∨ v = 1) (d : decode cc pc = .ok (.bastore, 1)) (kk : w (wi M a i.toNatClampNeg v) (pc + 1) ls st) : w M pc ls (.int v :: .int i :: .ref a :: st) := by
  obtain ⟨hG, p, e, R, s, m, args, below, meth, c, kc, ks, Q, ⟨hx, hb, hml, hown, hts, hK, hSK, hF, hLo, hkc, hks⟩, rfl⟩ := h
  intro H locs lsA hP hS hl
  obtain ⟨q0, hq⟩ := wsM_get (M := M) ha.1
  have hq' : (wsM G M)[q0]? = some (a, .inl (gcA G 1, (n, .inl (M.1 a)))) := by rw [hq]; simp [cellM, ha.2]
  refine va_zast hx hb hK hP (vaD_of hG.1 (fun x hx => Or.inl hx)) hS q0 1 hq' rfl (vp_in_iff.mpr hi) d (fun H1 locs1 hP1 _ hS1 => ?_)
  rw [(bl_n hv).2.2, wsM_set (M' := wi M a i.toNatClampNeg v) hG.1 ha.1 hq (by simp [cellM, ha.2, wi_row]) (fun b _ hb => cellM_wi_ne hb)] at hP1
  exact kk H1 locs1 lsA hP1 hS1 hl
theorem Rb.putd (h : Rb G cc own nL F Lo w) {a ci k idx j v : Nat} {C : String} (ha : hs G a (0, ci)) (h6 : ci = 6 ∨ ci = 10) (hf : FP own idx ci k (.object C)) (hk : fkd ci k = (2, j)) (hu : ∀ k', k' < nfl ci → k' ≠ k → (fkd ci k').1 ≤ 1 ∨ (fkd ci k').2 ≠ j) (hv : ∀ c', c' < 12 → c' ≠ ci → ∀ k', k' < nfl c' → (fkd c' k').1 ≤ 1 ∨ (fkd c' k').2 ≠ j) (d : decode cc pc = .ok (.putfield idx, 3)) (kk : w (wd M j v) (pc + 3) ls st) : w M pc ls (.ref v :: .ref a :: st) := by
  obtain ⟨hG, p, e, R, s, m, args, below, meth, c, kc, ks, Q, ⟨hx, hb, hml, hown, hts, hK, hSK, hF, hLo, hkc, hks⟩, rfl⟩ := h
  intro H locs lsA hP hS hl
  obtain ⟨q0, hq⟩ := wsM_get (M := M) ha.1
  obtain ⟨C9, T, N, hc, hN, hk9, hlink, hfin, hd⟩ := hf
  obtain ⟨h1, ⟨ty0, h2⟩, h3⟩ := ckc hc
  have hq' : (wsM G M)[q0]? = some (a, .inr (ci, flds M a ci)) := by rw [hq]; simp [cellM, ha.2]
  refine va_put (C := C9) (T := T) (N := N) (v := .ref v) hx hb hts h1 ty0 h2 h3 hown hK hP (vaD_of hG.1 (fun x hx => Or.inl hx)) hS q0 hq' hc k hk9 (hts _ hlink) (fun x hx => hx) hfin hd rfl rfl (by simp [flds]; omega) d (fun H1 locs1 hP1 _ hS1 => ?_)
  rw [fl_setd hk hu, wsM_set (M' := wd M j v) hG.1 ha.1 hq (by simp [cellM, ha.2]) (fun b hbL hb => ?_)] at hP1
  · exact kk H1 locs1 lsA hP1 hS1 hl
  · unfold cellM
    rcases hz : (glay G b).1 with _ | _ | _ | _ | t
    · have hne : (glay G b).2 ≠ ci := fun e => hb (hG.2.2 a b ci h6 ha ⟨hbL, by rw [← e, ← hz]⟩)
      have : flds (wd M j v) b (glay G b).2 = flds M b (glay G b).2 := by
        by_cases h12 : (glay G b).2 < 12
        · exact fl_eqd (hv _ h12 hne)
        · have h0 : nfl (glay G b).2 = 0 := by simp only [nfl, fkT]; rw [List.getD_eq_getElem?_getD, List.getElem?_eq_none (by simp; omega)]; rfl
          simp [flds, h0]
      simp only [this]
    all_goals rfl
theorem Rb.aaldS (h : Rb G cc own nL F Lo w) {a n t : Nat} {i : Int32} (ha : hs G a (t + 4, n)) (hi : 0 ≤ i.toInt ∧ i.toInt < n) (d : decode cc pc = .ok (.aaload, 1)) (kk : w M (pc + 1) ls (.ref (gaK G (t + i.toNatClampNeg)) :: st)) : w M pc ls (.int i :: .ref a :: st) := by
  obtain ⟨hG, p, e, R, s, m, args, below, meth, c, kc, ks, Q, ⟨hx, hb, hml, hown, hts, hK, hSK, hF, hLo, hkc, hks⟩, rfl⟩ := h
  intro H locs lsA hP hS hl
  obtain ⟨q0, hq⟩ := wsM_get (M := M) ha.1
  have hq' : (wsM G M)[q0]? = some (a, .inl (gcA G 3, (n, .inr (.inr (.inr (.inr (fun k => some (gaK G (t + k))))))))) := by rw [hq]; simp [cellM, ha.2]
  exact va_aldq hx hb hK hP q0 3 hq' rfl (vp_in_iff.mpr hi) d (kk H locs lsA hP hS hl)
theorem Rb.alenS (h : Rb G cc own nL F Lo w) {a n t : Nat} {v : Int32} (ha : hs G a (t + 4, n)) (hv : Int32.ofNat n = v) (d : decode cc pc = .ok (.arraylength, 1)) (kk : w M (pc + 1) ls (.int v :: st)) : w M pc ls (.ref a :: st) := by
  obtain ⟨hG, p, e, R, s, m, args, below, meth, c, kc, ks, Q, ⟨hx, hb, hml, hown, hts, hK, hSK, hF, hLo, hkc, hks⟩, rfl⟩ := h
  intro H locs lsA hP hS hl
  obtain ⟨q0, hq⟩ := wsM_get (M := M) ha.1
  have hq' : (wsM G M)[q0]? = some (a, .inl (gcA G 3, (n, .inr (.inr (.inr (.inr (fun k => some (gaK G (t + k))))))))) := by rw [hq]; simp [cellM, ha.2]
  exact va_alen (x := (n, .inr (.inr (.inr (.inr (fun k => some (gaK G (t + k)))))))) hx hb hK hP q0 3 hq' (ty := .object "java/lang/String") rfl hv d (kk H locs lsA hP hS hl)
theorem Rb.acopy (h : Rb G cc own nL F Lo w) {a0 a n0 n1 idx : Nat} {sp dp n : Int32} (ha0 : hs G a0 (1, n0)) (ha : hs G a (1, n1)) (hg : 0 ≤ sp.toInt ∧ 0 ≤ dp.toInt ∧ 0 ≤ n.toInt ∧ sp.toInt + n.toInt ≤ n0 ∧ dp.toInt + n.toInt ≤ n1) (hl2 : Cond.methodLink own idx arraycopyName ∈ gw) (hF2 : 1 ≤ F ∧ 64 ≤ Lo) (hr : (st.map fun v => v.category).sum ≤ 8) (d : decode cc pc = .ok (.invokestatic idx, 3)) (kk : w (wcp M a0 a sp dp n) (pc + 3) ls st) : w M pc ls (.int n :: .int dp :: .ref a :: .int sp :: .ref a0 :: st) := by
  obtain ⟨hG, p, e, R, s, m, args, below, meth, c, kc, ks, Q, ⟨hx, hb, hml, hown, hts, hK, hSK, hF, hLo, hkc, hks⟩, rfl⟩ := h
  intro H locs lsA hP hS hl
  obtain ⟨q0, hq⟩ := wsM_get (M := M) ha.1
  obtain ⟨q1, hq1⟩ := wsM_get (M := M) ha0.1
  have hq' : (wsM G M)[q0]? = some (a, .inl (gcA G 0, (n1, .inl (M.1 a)))) := by rw [hq]; simp [cellM, ha.2]
  have hq1' : (wsM G M)[q1]? = some (a0, .inl (gcA G 0, (n0, .inl (M.1 a0)))) := by rw [hq1]; simp [cellM, ha0.2]
  obtain ⟨g1, g2, g3, g4, g5⟩ := hg
  have e1 := nn_z g1
  have e2 := nn_z g2
  have e3 := nn_z g3
  have h9 : nativeFrameWords "java/lang/System" "arraycopy" 5 + 11 ≤ 50 := by decide +kernel
  refine va_copyi hx hb (hml.trans hl.1.symm) hown (hts _ hl2) (hts _ acp_w.1) (hts _ acp_w.2.1) (hts _ acp_w.2.2) hK hP (vaD_of hG.1 (fun x hx => Or.inl hx)) hS q1 q0 0 0 hq1' hq' (ty := .int) rfl rfl rfl e1.1 e2.1 e3.1 (by omega) (by omega) (fun _ _ => rfl) (by omega) (by omega) d (fun H1 locs1 hP1 _ hS1 => ?_)
  rw [wsM_set (M' := wcp M a0 a sp dp n) hG.1 ha.1 hq ?_ (fun b _ hb => cellM_wcp_ne hb)] at hP1
  · exact kk H1 locs1 lsA hP1 hS1 hl
  · have : (wcp M a0 a sp dp n).1 a = va_cpy (M.1 a0) (M.1 a) sp.toNatClampNeg dp.toNatClampNeg n.toNatClampNeg := by funext j; simp [wcp]
    simp [cellM, ha.2, this]
end RB2
def FU : Nat := 1000000

