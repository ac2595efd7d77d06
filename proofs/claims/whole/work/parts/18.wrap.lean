theorem Met.ofWH {l : Launch} {y : MethodName} {ws ws' : List Cond} {rm : Room} {Pc : Array Value → State → Prop} {Qc : Array Value → State → Outcome → State → Prop} {mc ms : Nat} {free : Addr → Prop} {cc : ByteArray} {maxL : Nat} {ret : Option FieldType} {hh : List (Nat × Nat × Nat × Nat)}
    (hy : plainName y.cls = true) (hw : ws = Cond.codeWith y cc maxL ret hh :: ws')
    (body : ∀ p e s m args below meth c s₁, BodyLoose p l y (headSpec ws rm) cc maxL ret e s m args below meth c s₁ → c.maxLocals = maxL → c.exceptionTable.toList = tableOf hh → Pc args s →
      W p l e (headSpec ws rm).room s m args below meth c s.heap [] 0 0 (MQ below Qc args s mc ms free) (entryFrame m args maxL)) : Met l y ws rm Pc Qc mc ms free := by
  refine MetFree.of_bodyS (code := cc) (maxLocals := maxL) (ret := ret) hy ?_ ?_
  · intro args s m h hn
    obtain ⟨m9, meth, c, hn9, h1, h2, h3, h4, -, h5, h6, -⟩ := Cond.codeWith_spec (atoms_spec (ws := ws) h _ (by rw [hw]; exact List.mem_cons_self))
    cases hn.symm.trans hn9
    exact ⟨meth, c, h1, h2, h3, h4, h5, h6⟩
  · intro p e s m args below meth c s₁ B hml hP _
    have hh0 : s₁.heap = s.heap := by rw [B.state]; rfl
    obtain ⟨t, a1, o, b1, b2, b3⟩ := body p e s m args below meth c s₁ B hml (vx_table (x := y) B (atoms_spec (ws := ws) B.pre _ (by rw [hw]; exact List.mem_cons_self))) hP s₁ hh0 (Stand.of_body B)
    exact ⟨t, o, a1, b1, b2, ⟨b3.1, b3.2⟩⟩
def wsH (y : MethodName) (b : ByteArray) (mL : Nat) (ret : Option FieldType) (hh : List (Nat × Nat × Nat × Nat)) : List Cond := Cond.codeWith y b mL ret hh :: gw
def CtW (G : Ctx) (y : MethodName) (b : ByteArray) (mL : Nat) (hh : List (Nat × Nat × Nat × Nat)) (F Lo : Nat) (av : List Value) (M : Mem) (r : Int32) (M' : Mem) : Prop :=
  ∀ sz, Met (gl G) y (wsH y b mL (some .int) hh) (rmv F Lo 1 6) (va_Pc av (Pcm G M sz)) (QcM G (some (.int r)) M' sz) 1 6 (gA G sz)
def CatchAt (own : String) (hh : List (Nat × Nat × Nat × Nat)) (pc k hpc : Nat) : Prop := ∃ pre x suf, tableOf hh = pre ++ x :: suf ∧ covers x pc = true ∧ x.catchType ≠ 0 ∧ x.handlerPc = hpc ∧ Cond.classLink own x.catchType (exN k) ∈ gw ∧ ∀ z ∈ pre, z.catchType ≠ 0 ∧ k ≠ 0 ∧ Cond.classLink own z.catchType (exN 0) ∈ gw
def RbX (G : Ctx) (cc : ByteArray) (own : String) (nL F Lo : Nat) (hh : List (Nat × Nat × Nat × Nat)) (w w1 : Mem → Nat → List (Nat × Value) → List Value → Prop) : Prop :=
  WFG G ∧ ∃ (p : Program) (e : Env) (R : Room) (s : State) (m : MethodId) (args : Array Value) (below : List Frame) (meth : Method) (c : Code) (kc ks : Nat) (Q : State → Prop),
    (p.tables.exec = Jvm.exec ∧ c.code = cc ∧ c.maxLocals = nL ∧ s.vm.findClass own = some m.cls ∧ (∀ w ∈ gw, w.before args s = true) ∧ va_K (gD G) vwCl (gT G) s ∧ SK G s.heap.size s s.heap ∧ F ≤ R.frames ∧ Lo ≤ R.locals ∧ kc + 1 ≤ R.cells ∧ ks + 6 ≤ R.slots) ∧ c.exceptionTable.toList = tableOf hh ∧ w = WX G p e R s m args below meth c nL kc ks Q ∧ w1 = WX G p e R s m args below meth c nL (kc + 1) (ks + 6) Q
section WRAP
variable {G : Ctx} {cc : ByteArray} {own : String} {nL F Lo : Nat} {hh : List (Nat × Nat × Nat × Nat)} {w w1 : Mem → Nat → List (Nat × Value) → List Value → Prop} {M M' : Mem} {pc : Nat} {ls : List (Nat × Value)} {st : List Value}
theorem RbX.l (h : RbX G cc own nL F Lo hh w w1) : Rb G cc own nL F Lo w := by
  obtain ⟨hG, p, e, R, s, m, args, below, meth, c, kc, ks, Q, ⟨hx, hb, hml, hown, hts, hK, hSK, hF, hLo, hkc, hks⟩, ht, rfl, rfl⟩ := h
  exact ⟨hG, p, e, R, s, m, args, below, meth, c, kc, ks, Q, ⟨hx, hb, hml, hown, hts, hK, hSK, hF, hLo, by omega, by omega⟩, rfl⟩
theorem RbX.r (h : RbX G cc own nL F Lo hh w w1) : Rb G cc own nL F Lo w1 := by
  obtain ⟨hG, p, e, R, s, m, args, below, meth, c, kc, ks, Q, ⟨hx, hb, hml, hown, hts, hK, hSK, hF, hLo, hkc, hks⟩, ht, rfl, rfl⟩ := h
  exact ⟨hG, p, e, R, s, m, args, below, meth, c, kc + 1, ks + 6, Q, ⟨hx, hb, hml, hown, hts, hK, hSK, hF, hLo, hkc, hks⟩, rfl⟩
theorem RbX.wid (h : RbX G cc own nL F Lo hh w w1) (k : w1 M pc ls st) : w M pc ls st := by
  obtain ⟨hG, p, e, R, s, m, args, below, meth, c, kc, ks, Q, -, ht, rfl, rfl⟩ := h
  intro H locs lsA hP hS hl
  exact W.widen (k := kc + 1) (n := ks + 6) (by omega) (by omega) (k H locs lsA hP hS hl)
theorem Rb.last (h : Rb G cc own nL F Lo w) {a n : Nat} {v : Int64} (ha : hs G a (3, n)) (hn : 0 < n) (d : decode cc pc = .ok (.lastore, 1)) (kk : w (wl M a 0 v) (pc + 1) ls st) : w M pc ls (.long v :: .int 0 :: .ref a :: st) := by
  obtain ⟨hG, p, e, R, s, m, args, below, meth, c, kc, ks, Q, ⟨hx, hb, hml, hown, hts, hK, hSK, hF, hLo, hkc, hks⟩, rfl⟩ := h
  intro H locs lsA hP hS hl
  obtain ⟨q0, hq⟩ := wsM_get (M := M) ha.1
  have hq' : (wsM G M)[q0]? = some (a, .inl (gcA G 2, (n, .inr (.inl (M.2.1 a))))) := by rw [hq]; simp [cellM, ha.2]
  refine va_last hx hb hK hP (vaD_of hG.1 (fun x hx => Or.inl hx)) hS q0 2 hq' rfl (vp_in_iff.mpr ⟨by decide, by simpa using hn⟩) d (fun H1 locs1 hP1 _ hS1 => ?_)
  rw [wsM_set (M' := wl M a 0 v) hG.1 ha.1 hq (by
    have : (wl M a 0 v).2.1 a = vp_updL (M.2.1 a) (0 : Int32).toNatClampNeg v := by funext j; simp [wl, vp_updL]
    simp [cellM, ha.2, this]) (fun b _ hb => cellM_wl_ne hb)] at hP1
  exact kk H1 locs1 lsA hP1 hS1 hl
theorem Rb.lald (h : Rb G cc own nL F Lo w) {a n : Nat} (ha : hs G a (3, n)) (hn : 0 < n) (d : decode cc pc = .ok (.laload, 1)) (kk : w M (pc + 1) ls (.long (M.2.1 a 0) :: st)) : w M pc ls (.int 0 :: .ref a :: st) := by
  obtain ⟨hG, p, e, R, s, m, args, below, meth, c, kc, ks, Q, ⟨hx, hb, hml, hown, hts, hK, hSK, hF, hLo, hkc, hks⟩, rfl⟩ := h
  intro H locs lsA hP hS hl
  obtain ⟨q0, hq⟩ := wsM_get (M := M) ha.1
  have hq' : (wsM G M)[q0]? = some (a, .inl (gcA G 2, (n, .inr (.inl (M.2.1 a))))) := by rw [hq]; simp [cellM, ha.2]
  exact va_lald hx hb hK hP q0 2 hq' rfl (vp_in_iff.mpr ⟨by decide, by simpa using hn⟩) d (kk H locs lsA hP hS hl)
/-- a call of a method that returns or throws, under a table of handlers -/
theorem RbX.callX (h : RbX G cc own nL F Lo hh w w1) {y : MethodName} {b : ByteArray} {mL F' Lo' n idx a ci : Nat} {ret : Option FieldType} {res : Int32 ⊕ Nat} {As rest : List Value} (hp : Nat → Nat) (hc : CtX G y b mL ret F' Lo' (.ref a :: As) M res M') (hm : lkM y b mL ret n) (hi : Cond.instanceMethod y ∈ gw ∧ Cond.selects y.cls y y ∈ gw) (hl : Cond.methodLink own idx y ∈ gw) (ha : hs G a (0, ci)) (hcl : ∃ T N, vwCl[ci]? = some (y.cls, T, N)) (hn : As.length = n) (hst : st = As.reverse ++ .ref a :: rest) (hr : (rest.map fun v => v.category).sum ≤ 8) (hF : F' + 1 ≤ F ∧ 8 + (mL + 11) + Lo' ≤ Lo) (d : decode cc pc = .ok (.invokevirtual idx, 3))
    (kk : ∀ v, res = .inl v → w1 M' (pc + 3) ls (.int v :: rest)) (hcat : ∀ k, res = .inr k → CatchAt own hh pc k (hp k)) (kx : ∀ k q, res = .inr k → w1 M' (hp k) ls [.ref q]) : w M pc ls st := by
  obtain ⟨hG, p, e, R, s, m, args, below, meth, c, kc, ks, Q, ⟨hx, hb, hml, hown, hts, hK, hSK, hFR, hLR, hkc, hks⟩, htab, rfl, rfl⟩ := h
  intro H locs lsA hP hS hl'
  obtain ⟨T, N, hcl⟩ := hcl
  obtain ⟨q0, hq⟩ := wsM_get (M := M) ha.1
  have hq' : (wsM G M)[q0]? = some (a, .inr (ci, flds M a ci)) := by rw [hq]; simp [cellM, ha.2]
  have hrun := vx_runV (As := As) (rest := rest) ⟨hx, hb, hml, hown, hts⟩ (hc H.size) (H := H) (locs := locs) (below := below) (e := e) (meth := meth) (g := F0 m pc lsA st) (cells := kc) (slots := ks) ⟨callB_of n hts (good_gw hm.1) rfl rfl rfl (hts _ hm.2.1) (hts _ hl) hm.2.2 ⟨Nat.le_trans hF.1 hFR, Nat.le_trans hF.2 hLR⟩, hts _ hi.1, hts _ hi.2⟩ ⟨Pcm.blind, va_recv hK hP hcl hq', pcm_at hP hS hK hSK (.ref a :: As)⟩ rfl hn hl'.1 hst (lv_room hr) d ⟨hkc, hks⟩
  have hA : ∀ q, gA G H.size q → gA G s.heap.size q := gA_sub hS.1
  intro T0 hT0 X0
  rcases hrun T0 hT0 X0 with ⟨v, st₀, t, T', L, h0, X', hL, e1, e2, ⟨⟨r, hres, hv, hP1⟩, hFr⟩, stp⟩ | ⟨q, st₀, t, T', L, E, ce, h0, X', hL, e1, e2, ⟨⟨k, hres, hE, hP1⟩, hFr⟩, hce, hcv, hcl2, stp⟩
  · obtain ⟨k1, k2, k3⟩ := vx_keep h0 e1 hS (fun q _ h => hA q h) hA hL hFr
    obtain rfl : v = some (.int r) := by cases hv; rfl
    obtain ⟨t2, a1, b1⟩ := kk r hres T'.heap (locs ++ L) lsA (by rw [e1]; exact hP1) k3 hl' T' rfl X'
    exact ⟨t2, stp t2 a1, b1⟩
  · obtain ⟨k1, k2, k3⟩ := vx_keep h0 e1 hS (fun q _ h => hA q h) hA hL hFr
    obtain ⟨pre, x, suf, h1, h2, h3, h4, h5, h6⟩ := hcat k hres
    subst hE
    have hSX := hSK.2.2.2.2.2.2.2
    have hcast : (Cond.castable (exN k) (exN k)).before args s = true := by
      by_cases hk0 : k = 0
      · subst hk0; exact va_Nw.use rfl (hSX.1 _ (by simp [exC, exN]))
      · have : exN k = "java/lang/IllegalArgumentException" := by simp [exN, hk0]
        rw [this]; exact va_Nw.use rfl (hSX.1 _ (by simp [exC]))
    have kw := vx_catch (own := own) (name := exN k) (E := exN k) (ce := ce) (q := q) (p := p) (l := gl G) (e := e) (R := R) (s := s) (args := args) (below := below) (meth := meth) (H := T'.heap) (locs := locs ++ L) (cells := kc + 1) (slots := ks + 6) (Q := Q) (ls := lsA) (pc := pc) (rest := rest) hown pre x suf (htab.trans h1) (fun z hz => Or.inr (by
      obtain ⟨g1, g2, g3⟩ := h6 z hz
      refine ⟨g1, exN 0, hts _ g3, ?_⟩
      have : exN k = "java/lang/IllegalArgumentException" := by simp [exN, g2]
      rw [this]
      exact hSX.2.2)) h2 h3 (hts _ h5) hcast (by rw [e1]; exact hce) hcv hcl2 (by rw [h4]; exact kx k q hres T'.heap (locs ++ L) lsA (by rw [e1]; exact hP1) k3 hl')
    obtain ⟨t2, a1, b1⟩ := kw T' rfl X'
    exact ⟨t2, stp.trans a1, b1⟩
theorem ct_w {y : MethodName} {b : ByteArray} {mL : Nat} {av : List Value} {r : Int32} (hW : WFG G) (hy : plainName y.cls = true) (hlen : (lg_sl av).length ≤ mL)
    (body : ∀ w w1, RbX G b y.cls mL F Lo hh w w1 → (∀ (pc : Nat) (ls : List (Nat × Value)), decode b pc = .ok (.ireturn, 1) → w1 M' pc ls [.int r]) → w M 0 (lv_args 0 av) []) : CtW G y b mL hh F Lo av M r M' := by
  intro sz
  refine Met.ofWH (cc := b) (maxL := mL) (ret := some .int) hy rfl ?_
  intro p e s m args below meth c s₁ B hml htab hv
  obtain ⟨rfl, hsz, hP, hK, hSK⟩ := hv
  subst hsz
  have hts := atoms_spec (ws := wsH y b mL (some .int) hh) B.pre
  rw [lg_entry_eq]
  refine body (WX G p e (headSpec (wsH y b mL (some .int) hh) (rmv F Lo 1 6)).room s m av.toArray below meth c mL 0 0 _) (WX G p e (headSpec (wsH y b mL (some .int) hh) (rmv F Lo 1 6)).room s m av.toArray below meth c mL 1 6 _) ⟨hW, p, e, _, s, m, av.toArray, below, meth, c, 0, 0, _, ⟨B.exec, B.bytes, hml, findClass_of_methodNamed B.named, fun w hw => hts w (List.mem_cons_of_mem _ hw), hK, hSK, Nat.le_refl _, Nat.le_refl _, Nat.le_refl _, Nat.le_refl _⟩, htab, rfl, rfl⟩ ?_ s.heap [] _ hP va_S.rf (lv_entry av hlen)
  intro pc ls d H locs lsA hP1 hS1 hl1
  exact W.iret B.exec B.bytes B.returns (fun t ht hW => ⟨⟨rfl, by rw [ht]; exact hP1⟩, hS1.F ht⟩) hS1.2.2 d B.notSynchronized
end WRAP
theorem lcl_RL_13 : Cond.classLink RL 13 (exN 1) ∈ gw := gin 902 (by decide +kernel) rfl
theorem lm_X10_line : lkM yX10_line cX10_line 3 (some .int) 1 := ⟨gin 906 (by decide +kernel) rfl, gin 90 (by decide +kernel) rfl, by decide +kernel⟩
theorem lv_m_X10_line : Cond.instanceMethod yX10_line ∈ gw ∧ Cond.selects (yX10_line).cls yX10_line yX10_line ∈ gw := ⟨gin 904 (by decide +kernel) rfl, gin 905 (by decide +kernel) rfl⟩
theorem ll_RL_7 : Cond.methodLink RL 7 yX10_line ∈ gw := gin 903 (by decide +kernel) rfl
theorem lcl_RL_18 : Cond.classLink RL 18 (exN 0) ∈ gw := gin 1122 (by decide +kernel) rfl
theorem lm_X10_count : lkM yX10_count cX10_count 3 (some .int) 1 := ⟨gin 1126 (by decide +kernel) rfl, gin 90 (by decide +kernel) rfl, by decide +kernel⟩
theorem lv_m_X10_count : Cond.instanceMethod yX10_count ∈ gw ∧ Cond.selects (yX10_count).cls yX10_count yX10_count ∈ gw := ⟨gin 1124 (by decide +kernel) rfl, gin 1125 (by decide +kernel) rfl⟩
theorem ll_RL_15 : Cond.methodLink RL 15 yX10_count ∈ gw := gin 1123 (by decide +kernel) rfl
theorem lm_X10_set : lkM yX10_set cX10_set 3 (some .int) 1 := ⟨gin 1164 (by decide +kernel) rfl, gin 90 (by decide +kernel) rfl, by decide +kernel⟩
theorem lv_m_X10_set : Cond.instanceMethod yX10_set ∈ gw ∧ Cond.selects (yX10_set).cls yX10_set yX10_set ∈ gw := ⟨gin 1162 (by decide +kernel) rfl, gin 1163 (by decide +kernel) rfl⟩
theorem ll_RL_20 : Cond.methodLink RL 20 yX10_set ∈ gw := gin 1161 (by decide +kernel) rfl
theorem lm_X10_flying : lkM yX10_flying cX10_flying 4 (some .int) 2 := ⟨gin 1173 (by decide +kernel) rfl, gin 90 (by decide +kernel) rfl, by decide +kernel⟩
theorem lv_m_X10_flying : Cond.instanceMethod yX10_flying ∈ gw ∧ Cond.selects (yX10_flying).cls yX10_flying yX10_flying ∈ gw := ⟨gin 1171 (by decide +kernel) rfl, gin 1172 (by decide +kernel) rfl⟩
theorem ll_RL_23 : Cond.methodLink RL 23 yX10_flying ∈ gw := gin 1170 (by decide +kernel) rfl
theorem lm_X10_slot : lkM yX10_slot cX10_slot 2 (some .int) 1 := ⟨gin 1181 (by decide +kernel) rfl, gin 90 (by decide +kernel) rfl, by decide +kernel⟩
theorem lv_m_X10_slot : Cond.instanceMethod yX10_slot ∈ gw ∧ Cond.selects (yX10_slot).cls yX10_slot yX10_slot ∈ gw := ⟨gin 1179 (by decide +kernel) rfl, gin 1180 (by decide +kernel) rfl⟩
theorem ll_RL_27 : Cond.methodLink RL 27 yX10_slot ∈ gw := gin 1178 (by decide +kernel) rfl
theorem lm_X10_played : lkM yX10_played cX10_played 4 (some .int) 2 := ⟨gin 1193 (by decide +kernel) rfl, gin 90 (by decide +kernel) rfl, by decide +kernel⟩
theorem lv_m_X10_played : Cond.instanceMethod yX10_played ∈ gw ∧ Cond.selects (yX10_played).cls yX10_played yX10_played ∈ gw := ⟨gin 1191 (by decide +kernel) rfl, gin 1192 (by decide +kernel) rfl⟩
theorem ll_RL_30 : Cond.methodLink RL 30 yX10_played ∈ gw := gin 1190 (by decide +kernel) rfl
theorem lm_X10_spans : lkM yX10_spans cX10_spans 4 (some .int) 2 := ⟨gin 1207 (by decide +kernel) rfl, gin 90 (by decide +kernel) rfl, by decide +kernel⟩
theorem lv_m_X10_spans : Cond.instanceMethod yX10_spans ∈ gw ∧ Cond.selects (yX10_spans).cls yX10_spans yX10_spans ∈ gw := ⟨gin 1205 (by decide +kernel) rfl, gin 1206 (by decide +kernel) rfl⟩
theorem ll_RL_33 : Cond.methodLink RL 33 yX10_spans ∈ gw := gin 1204 (by decide +kernel) rfl
theorem lm_X10_sample : lkM yX10_sample cX10_sample 3 (some .int) 1 := ⟨gin 1221 (by decide +kernel) rfl, gin 90 (by decide +kernel) rfl, by decide +kernel⟩
theorem lv_m_X10_sample : Cond.instanceMethod yX10_sample ∈ gw ∧ Cond.selects (yX10_sample).cls yX10_sample yX10_sample ∈ gw := ⟨gin 1219 (by decide +kernel) rfl, gin 1220 (by decide +kernel) rfl⟩
theorem ll_RL_36 : Cond.methodLink RL 36 yX10_sample ∈ gw := gin 1218 (by decide +kernel) rfl
theorem lm_X10_wander : lkM yX10_wander cX10_wander 2 (some .int) 1 := ⟨gin 1234 (by decide +kernel) rfl, gin 90 (by decide +kernel) rfl, by decide +kernel⟩
theorem lv_m_X10_wander : Cond.instanceMethod yX10_wander ∈ gw ∧ Cond.selects (yX10_wander).cls yX10_wander yX10_wander ∈ gw := ⟨gin 1232 (by decide +kernel) rfl, gin 1233 (by decide +kernel) rfl⟩
theorem ll_RL_39 : Cond.methodLink RL 39 yX10_wander ∈ gw := gin 1231 (by decide +kernel) rfl
theorem lm_X10_turn : lkM yX10_turn cX10_turn 4 (some .int) 2 := ⟨gin 1252 (by decide +kernel) rfl, gin 90 (by decide +kernel) rfl, by decide +kernel⟩
theorem lv_m_X10_turn : Cond.instanceMethod yX10_turn ∈ gw ∧ Cond.selects (yX10_turn).cls yX10_turn yX10_turn ∈ gw := ⟨gin 1250 (by decide +kernel) rfl, gin 1251 (by decide +kernel) rfl⟩
theorem ll_RL_42 : Cond.methodLink RL 42 yX10_turn ∈ gw := gin 1249 (by decide +kernel) rfl
theorem lm_X10_then : lkM yX10_then cX10_then 3 (some .int) 2 := ⟨gin 1267 (by decide +kernel) rfl, gin 90 (by decide +kernel) rfl, by decide +kernel⟩
theorem lv_m_X10_then : Cond.instanceMethod yX10_then ∈ gw ∧ Cond.selects (yX10_then).cls yX10_then yX10_then ∈ gw := ⟨gin 1265 (by decide +kernel) rfl, gin 1266 (by decide +kernel) rfl⟩
theorem ll_RL_45 : Cond.methodLink RL 45 yX10_then ∈ gw := gin 1264 (by decide +kernel) rfl
theorem lm_X10_when : lkM yX10_when cX10_when 2 (some .int) 1 := ⟨gin 1281 (by decide +kernel) rfl, gin 90 (by decide +kernel) rfl, by decide +kernel⟩
theorem lv_m_X10_when : Cond.instanceMethod yX10_when ∈ gw ∧ Cond.selects (yX10_when).cls yX10_when yX10_when ∈ gw := ⟨gin 1279 (by decide +kernel) rfl, gin 1280 (by decide +kernel) rfl⟩
theorem ll_RL_48 : Cond.methodLink RL 48 yX10_when ∈ gw := gin 1278 (by decide +kernel) rfl
theorem lm_X10_toAim : lkM yX10_toAim cX10_toAim 3 (some .int) 2 := ⟨gin 1300 (by decide +kernel) rfl, gin 90 (by decide +kernel) rfl, by decide +kernel⟩
theorem lv_m_X10_toAim : Cond.instanceMethod yX10_toAim ∈ gw ∧ Cond.selects (yX10_toAim).cls yX10_toAim yX10_toAim ∈ gw := ⟨gin 1298 (by decide +kernel) rfl, gin 1299 (by decide +kernel) rfl⟩
theorem ll_RL_51 : Cond.methodLink RL 51 yX10_toAim ∈ gw := gin 1297 (by decide +kernel) rfl
theorem lm_X10_toGain : lkM yX10_toGain cX10_toGain 3 (some .int) 2 := ⟨gin 1316 (by decide +kernel) rfl, gin 90 (by decide +kernel) rfl, by decide +kernel⟩
theorem lv_m_X10_toGain : Cond.instanceMethod yX10_toGain ∈ gw ∧ Cond.selects (yX10_toGain).cls yX10_toGain yX10_toGain ∈ gw := ⟨gin 1314 (by decide +kernel) rfl, gin 1315 (by decide +kernel) rfl⟩
theorem ll_RL_54 : Cond.methodLink RL 54 yX10_toGain ∈ gw := gin 1313 (by decide +kernel) rfl
theorem lm_X10_other : lkM yX10_other cX10_other 2 (some .int) 1 := ⟨gin 1332 (by decide +kernel) rfl, gin 90 (by decide +kernel) rfl, by decide +kernel⟩
theorem lv_m_X10_other : Cond.instanceMethod yX10_other ∈ gw ∧ Cond.selects (yX10_other).cls yX10_other yX10_other ∈ gw := ⟨gin 1330 (by decide +kernel) rfl, gin 1331 (by decide +kernel) rfl⟩
theorem ll_RL_57 : Cond.methodLink RL 57 yX10_other ∈ gw := gin 1329 (by decide +kernel) rfl
theorem lm_X10_look : lkM yX10_look cX10_look 2 (some .int) 1 := ⟨gin 1360 (by decide +kernel) rfl, gin 90 (by decide +kernel) rfl, by decide +kernel⟩
theorem lv_m_X10_look : Cond.instanceMethod yX10_look ∈ gw ∧ Cond.selects (yX10_look).cls yX10_look yX10_look ∈ gw := ⟨gin 1358 (by decide +kernel) rfl, gin 1359 (by decide +kernel) rfl⟩
theorem ll_RL_60 : Cond.methodLink RL 60 yX10_look ∈ gw := gin 1357 (by decide +kernel) rfl
theorem lm_X10_storms : lkM yX10_storms cX10_storms 3 (some .int) 2 := ⟨gin 1371 (by decide +kernel) rfl, gin 90 (by decide +kernel) rfl, by decide +kernel⟩
theorem lv_m_X10_storms : Cond.instanceMethod yX10_storms ∈ gw ∧ Cond.selects (yX10_storms).cls yX10_storms yX10_storms ∈ gw := ⟨gin 1369 (by decide +kernel) rfl, gin 1370 (by decide +kernel) rfl⟩
theorem ll_RL_63 : Cond.methodLink RL 63 yX10_storms ∈ gw := gin 1368 (by decide +kernel) rfl
theorem lm_X10_years : lkM yX10_years cX10_years 4 (some .int) 3 := ⟨gin 1390 (by decide +kernel) rfl, gin 90 (by decide +kernel) rfl, by decide +kernel⟩
theorem lv_m_X10_years : Cond.instanceMethod yX10_years ∈ gw ∧ Cond.selects (yX10_years).cls yX10_years yX10_years ∈ gw := ⟨gin 1388 (by decide +kernel) rfl, gin 1389 (by decide +kernel) rfl⟩
theorem ll_RL_66 : Cond.methodLink RL 66 yX10_years ∈ gw := gin 1387 (by decide +kernel) rfl
def f_L_line (x : Nat) (x1_ : Int32) (o : Nat) (M : Mem) : Option (Int32 × Mem) := bd (f_X10_line x x1_ M) (fun r M1 => match r with
  | .inl v => some (0, wl M1 o 0 v.toInt64)
  | .inr k => if k = 1 then some (1, M1) else none)
theorem c_L_line {G : Ctx} (hfl : (gl G).stackTraces = false) (hW : WFG G) {x o : Nat} {x1_ : Int32} {M M' : Mem} {r : Int32} (h0 : hs G x (0, 10)) (ho : hs G o (3, 1)) (hf : f_L_line x x1_ o M = some (r, M')) : CtW G yL_line cL_line 4 [(0, 9, 12, 13)] 98 5334 [.ref x, .int x1_, .ref o] M r M' := by
  unfold f_L_line bd at hf
  cases hq : f_X10_line x x1_ M with
  | none => rw [hq] at hf; cases hf
  | some q =>
    obtain ⟨res, M1⟩ := q
    rw [hq] at hf
    have hc := c_X10_line hfl hW h0 hq
    refine ct_w hW (by decide +kernel) (Nat.le_of_ble_eq_true rfl) (fun w w1 h hr => ?_)
    have h : RbX G cL_line RL 4 98 5334 [(0, 9, 12, 13)] w w1 := h
    show w M 0 [(0, .ref x), (1, .int x1_), (2, .ref o)] []
    refine h.l.aload_n 2 dL_line_0 rfl ?_
    refine h.l.iconst (v := 0) dL_line_1 (by decide) ?_
    refine h.l.aload_n 0 dL_line_2 rfl ?_
    refine h.l.iload_n 1 dL_line_3 rfl ?_
    refine h.callX (As := [.int x1_]) (rest := [.int 0, .ref o]) (fun k => 12) hc lm_X10_line lv_m_X10_line ll_RL_7 h0 lc_10 rfl rfl (Nat.le_of_ble_eq_true rfl) (by decide) dL_line_4 (fun v e => ?_) (fun k e => ?_) (fun k q e => ?_)
    · subst e
      cases hf
      refine h.r.i2l dL_line_7 ?_
      refine h.r.last ho (by decide) dL_line_8 ?_
      refine h.r.goto (tgt := 15) dL_line_9 (by decide) ?_
      refine h.r.iconst (v := 0) dL_line_15 (by decide) ?_
      exact hr _ _ dL_line_16
    · subst e
      dsimp only at hf
      by_cases hk0 : k = 1
      · subst hk0
        exact ⟨[], _, _, rfl, by decide, by decide, rfl, lcl_RL_13, fun z hz => nomatch hz⟩
      · simp [hk0] at hf
    · subst e
      dsimp only at hf
      by_cases hk0 : k = 1
      · subst hk0
        cases hf
        show w1 _ 12 _ _
        refine h.r.astore_n dL_line_12 (by decide) rfl ?_
        refine h.r.iconst (v := 1) dL_line_13 (by decide) ?_
        exact hr _ _ dL_line_14
      · simp [hk0] at hf
def f_L_count (x : Nat) (x1_ : Int32) (o : Nat) (M : Mem) : Option (Int32 × Mem) := bd (f_X10_count x x1_ M) (fun r M1 => match r with
  | .inl v => some (0, wl M1 o 0 v.toInt64)
  | .inr k => if k = 0 then some (1, M1) else none)
theorem c_L_count {G : Ctx} (hfl : (gl G).stackTraces = false) (hW : WFG G) {x o : Nat} {x1_ : Int32} {M M' : Mem} {r : Int32} (h0 : hs G x (0, 10)) (ho : hs G o (3, 1)) (hf : f_L_count x x1_ o M = some (r, M')) : CtW G yL_count cL_count 4 [(0, 9, 12, 18)] 11 222 [.ref x, .int x1_, .ref o] M r M' := by
  unfold f_L_count bd at hf
  cases hq : f_X10_count x x1_ M with
  | none => rw [hq] at hf; cases hf
  | some q =>
    obtain ⟨res, M1⟩ := q
    rw [hq] at hf
    have hc := c_X10_count hfl hW h0 hq
    refine ct_w hW (by decide +kernel) (Nat.le_of_ble_eq_true rfl) (fun w w1 h hr => ?_)
    have h : RbX G cL_count RL 4 11 222 [(0, 9, 12, 18)] w w1 := h
    show w M 0 [(0, .ref x), (1, .int x1_), (2, .ref o)] []
    refine h.l.aload_n 2 dL_count_0 rfl ?_
    refine h.l.iconst (v := 0) dL_count_1 (by decide) ?_
    refine h.l.aload_n 0 dL_count_2 rfl ?_
    refine h.l.iload_n 1 dL_count_3 rfl ?_
    refine h.callX (As := [.int x1_]) (rest := [.int 0, .ref o]) (fun k => 12) hc lm_X10_count lv_m_X10_count ll_RL_15 h0 lc_10 rfl rfl (Nat.le_of_ble_eq_true rfl) (by decide) dL_count_4 (fun v e => ?_) (fun k e => ?_) (fun k q e => ?_)
    · subst e
      cases hf
      refine h.r.i2l dL_count_7 ?_
      refine h.r.last ho (by decide) dL_count_8 ?_
      refine h.r.goto (tgt := 15) dL_count_9 (by decide) ?_
      refine h.r.iconst (v := 0) dL_count_15 (by decide) ?_
      exact hr _ _ dL_count_16
    · subst e
      dsimp only at hf
      by_cases hk0 : k = 0
      · subst hk0
        exact ⟨[], _, _, rfl, by decide, by decide, rfl, lcl_RL_18, fun z hz => nomatch hz⟩
      · simp [hk0] at hf
    · subst e
      dsimp only at hf
      by_cases hk0 : k = 0
      · subst hk0
        cases hf
        show w1 _ 12 _ _
        refine h.r.astore_n dL_count_12 (by decide) rfl ?_
        refine h.r.iconst (v := 1) dL_count_13 (by decide) ?_
        exact hr _ _ dL_count_14
      · simp [hk0] at hf
def f_L_set (x : Nat) (x1_ : Int32) (o : Nat) (M : Mem) : Option (Int32 × Mem) := bd (f_X10_set x x1_ M) (fun r M1 => match r with
  | .inl v => some (0, wl M1 o 0 v.toInt64)
  | .inr k => if k = 0 then some (1, M1) else none)
theorem c_L_set {G : Ctx} (hfl : (gl G).stackTraces = false) (hW : WFG G) {x o : Nat} {x1_ : Int32} {M M' : Mem} {r : Int32} (h0 : hs G x (0, 10)) (ho : hs G o (3, 1)) (hf : f_L_set x x1_ o M = some (r, M')) : CtW G yL_set cL_set 4 [(0, 9, 12, 18)] 11 222 [.ref x, .int x1_, .ref o] M r M' := by
  unfold f_L_set bd at hf
  cases hq : f_X10_set x x1_ M with
  | none => rw [hq] at hf; cases hf
  | some q =>
    obtain ⟨res, M1⟩ := q
    rw [hq] at hf
    have hc := c_X10_set hfl hW h0 hq
    refine ct_w hW (by decide +kernel) (Nat.le_of_ble_eq_true rfl) (fun w w1 h hr => ?_)
    have h : RbX G cL_set RL 4 11 222 [(0, 9, 12, 18)] w w1 := h
    show w M 0 [(0, .ref x), (1, .int x1_), (2, .ref o)] []
    refine h.l.aload_n 2 dL_set_0 rfl ?_
    refine h.l.iconst (v := 0) dL_set_1 (by decide) ?_
    refine h.l.aload_n 0 dL_set_2 rfl ?_
    refine h.l.iload_n 1 dL_set_3 rfl ?_
    refine h.callX (As := [.int x1_]) (rest := [.int 0, .ref o]) (fun k => 12) hc lm_X10_set lv_m_X10_set ll_RL_20 h0 lc_10 rfl rfl (Nat.le_of_ble_eq_true rfl) (by decide) dL_set_4 (fun v e => ?_) (fun k e => ?_) (fun k q e => ?_)
    · subst e
      cases hf
      refine h.r.i2l dL_set_7 ?_
      refine h.r.last ho (by decide) dL_set_8 ?_
      refine h.r.goto (tgt := 15) dL_set_9 (by decide) ?_
      refine h.r.iconst (v := 0) dL_set_15 (by decide) ?_
      exact hr _ _ dL_set_16
    · subst e
      dsimp only at hf
      by_cases hk0 : k = 0
      · subst hk0
        exact ⟨[], _, _, rfl, by decide, by decide, rfl, lcl_RL_18, fun z hz => nomatch hz⟩
      · simp [hk0] at hf
    · subst e
      dsimp only at hf
      by_cases hk0 : k = 0
      · subst hk0
        cases hf
        show w1 _ 12 _ _
        refine h.r.astore_n dL_set_12 (by decide) rfl ?_
        refine h.r.iconst (v := 1) dL_set_13 (by decide) ?_
        exact hr _ _ dL_set_14
      · simp [hk0] at hf
def f_L_flying (x : Nat) (x1_ : Int32) (x2_ : Int32) (o : Nat) (M : Mem) : Option (Int32 × Mem) := bd (f_X10_flying x x1_ x2_ M) (fun r M1 => match r with
  | .inl v => some (0, wl M1 o 0 v.toInt64)
  | .inr k => if k = 0 then some (1, M1) else none)
theorem c_L_flying {G : Ctx} (hfl : (gl G).stackTraces = false) (hW : WFG G) {x o : Nat} {x1_ x2_ : Int32} {M M' : Mem} {r : Int32} (h0 : hs G x (0, 10)) (ho : hs G o (3, 1)) (hf : f_L_flying x x1_ x2_ o M = some (r, M')) : CtW G yL_flying cL_flying 5 [(0, 10, 13, 18)] 11 223 [.ref x, .int x1_, .int x2_, .ref o] M r M' := by
  unfold f_L_flying bd at hf
  cases hq : f_X10_flying x x1_ x2_ M with
  | none => rw [hq] at hf; cases hf
  | some q =>
    obtain ⟨res, M1⟩ := q
    rw [hq] at hf
    have hc := c_X10_flying hfl hW h0 hq
    refine ct_w hW (by decide +kernel) (Nat.le_of_ble_eq_true rfl) (fun w w1 h hr => ?_)
    have h : RbX G cL_flying RL 5 11 223 [(0, 10, 13, 18)] w w1 := h
    show w M 0 [(0, .ref x), (1, .int x1_), (2, .int x2_), (3, .ref o)] []
    refine h.l.aload_n 3 dL_flying_0 rfl ?_
    refine h.l.iconst (v := 0) dL_flying_1 (by decide) ?_
    refine h.l.aload_n 0 dL_flying_2 rfl ?_
    refine h.l.iload_n 1 dL_flying_3 rfl ?_
    refine h.l.iload_n 2 dL_flying_4 rfl ?_
    refine h.callX (As := [.int x1_, .int x2_]) (rest := [.int 0, .ref o]) (fun k => 13) hc lm_X10_flying lv_m_X10_flying ll_RL_23 h0 lc_10 rfl rfl (Nat.le_of_ble_eq_true rfl) (by decide) dL_flying_5 (fun v e => ?_) (fun k e => ?_) (fun k q e => ?_)
    · subst e
      cases hf
      refine h.r.i2l dL_flying_8 ?_
      refine h.r.last ho (by decide) dL_flying_9 ?_
      refine h.r.goto (tgt := 17) dL_flying_10 (by decide) ?_
      refine h.r.iconst (v := 0) dL_flying_17 (by decide) ?_
      exact hr _ _ dL_flying_18
    · subst e
      dsimp only at hf
      by_cases hk0 : k = 0
      · subst hk0
        exact ⟨[], _, _, rfl, by decide, by decide, rfl, lcl_RL_18, fun z hz => nomatch hz⟩
      · simp [hk0] at hf
    · subst e
      dsimp only at hf
      by_cases hk0 : k = 0
      · subst hk0
        cases hf
        show w1 _ 13 _ _
        refine h.r.astore dL_flying_13 (by decide) rfl ?_
        refine h.r.iconst (v := 1) dL_flying_15 (by decide) ?_
        exact hr _ _ dL_flying_16
      · simp [hk0] at hf
def f_L_slot (x : Nat) (x1_ : Int32) (o : Nat) (M : Mem) : Option (Int32 × Mem) := bd (f_X10_slot x x1_ M) (fun r M1 => match r with
  | .inl v => some (0, wl M1 o 0 v.toInt64)
  | .inr k => if k = 0 then some (1, M1) else none)
theorem c_L_slot {G : Ctx} (hfl : (gl G).stackTraces = false) (hW : WFG G) {x o : Nat} {x1_ : Int32} {M M' : Mem} {r : Int32} (h0 : hs G x (0, 10)) (ho : hs G o (3, 1)) (hf : f_L_slot x x1_ o M = some (r, M')) : CtW G yL_slot cL_slot 4 [(0, 9, 12, 18)] 11 221 [.ref x, .int x1_, .ref o] M r M' := by
  unfold f_L_slot bd at hf
  cases hq : f_X10_slot x x1_ M with
  | none => rw [hq] at hf; cases hf
  | some q =>
    obtain ⟨res, M1⟩ := q
    rw [hq] at hf
    have hc := c_X10_slot hfl hW h0 hq
    refine ct_w hW (by decide +kernel) (Nat.le_of_ble_eq_true rfl) (fun w w1 h hr => ?_)
    have h : RbX G cL_slot RL 4 11 221 [(0, 9, 12, 18)] w w1 := h
    show w M 0 [(0, .ref x), (1, .int x1_), (2, .ref o)] []
    refine h.l.aload_n 2 dL_slot_0 rfl ?_
    refine h.l.iconst (v := 0) dL_slot_1 (by decide) ?_
    refine h.l.aload_n 0 dL_slot_2 rfl ?_
    refine h.l.iload_n 1 dL_slot_3 rfl ?_
    refine h.callX (As := [.int x1_]) (rest := [.int 0, .ref o]) (fun k => 12) hc lm_X10_slot lv_m_X10_slot ll_RL_27 h0 lc_10 rfl rfl (Nat.le_of_ble_eq_true rfl) (by decide) dL_slot_4 (fun v e => ?_) (fun k e => ?_) (fun k q e => ?_)
    · subst e
      cases hf
      refine h.r.i2l dL_slot_7 ?_
      refine h.r.last ho (by decide) dL_slot_8 ?_
      refine h.r.goto (tgt := 15) dL_slot_9 (by decide) ?_
      refine h.r.iconst (v := 0) dL_slot_15 (by decide) ?_
      exact hr _ _ dL_slot_16
    · subst e
      dsimp only at hf
      by_cases hk0 : k = 0
      · subst hk0
        exact ⟨[], _, _, rfl, by decide, by decide, rfl, lcl_RL_18, fun z hz => nomatch hz⟩
      · simp [hk0] at hf
    · subst e
      dsimp only at hf
      by_cases hk0 : k = 0
      · subst hk0
        cases hf
        show w1 _ 12 _ _
        refine h.r.astore_n dL_slot_12 (by decide) rfl ?_
        refine h.r.iconst (v := 1) dL_slot_13 (by decide) ?_
        exact hr _ _ dL_slot_14
      · simp [hk0] at hf
def f_L_played (x : Nat) (x1_ : Int32) (x2_ : Int32) (o : Nat) (M : Mem) : Option (Int32 × Mem) := bd (f_X10_played x x1_ x2_ M) (fun r M1 => match r with
  | .inl v => some (0, wl M1 o 0 v.toInt64)
  | .inr k => if k = 0 then some (1, M1) else none)
theorem c_L_played {G : Ctx} (hfl : (gl G).stackTraces = false) (hW : WFG G) {x o : Nat} {x1_ x2_ : Int32} {M M' : Mem} {r : Int32} (h0 : hs G x (0, 10)) (ho : hs G o (3, 1)) (hf : f_L_played x x1_ x2_ o M = some (r, M')) : CtW G yL_played cL_played 5 [(0, 10, 13, 18)] 11 223 [.ref x, .int x1_, .int x2_, .ref o] M r M' := by
  unfold f_L_played bd at hf
  cases hq : f_X10_played x x1_ x2_ M with
  | none => rw [hq] at hf; cases hf
  | some q =>
    obtain ⟨res, M1⟩ := q
    rw [hq] at hf
    have hc := c_X10_played hfl hW h0 hq
    refine ct_w hW (by decide +kernel) (Nat.le_of_ble_eq_true rfl) (fun w w1 h hr => ?_)
    have h : RbX G cL_played RL 5 11 223 [(0, 10, 13, 18)] w w1 := h
    show w M 0 [(0, .ref x), (1, .int x1_), (2, .int x2_), (3, .ref o)] []
    refine h.l.aload_n 3 dL_played_0 rfl ?_
    refine h.l.iconst (v := 0) dL_played_1 (by decide) ?_
    refine h.l.aload_n 0 dL_played_2 rfl ?_
    refine h.l.iload_n 1 dL_played_3 rfl ?_
    refine h.l.iload_n 2 dL_played_4 rfl ?_
    refine h.callX (As := [.int x1_, .int x2_]) (rest := [.int 0, .ref o]) (fun k => 13) hc lm_X10_played lv_m_X10_played ll_RL_30 h0 lc_10 rfl rfl (Nat.le_of_ble_eq_true rfl) (by decide) dL_played_5 (fun v e => ?_) (fun k e => ?_) (fun k q e => ?_)
    · subst e
      cases hf
      refine h.r.i2l dL_played_8 ?_
      refine h.r.last ho (by decide) dL_played_9 ?_
      refine h.r.goto (tgt := 17) dL_played_10 (by decide) ?_
      refine h.r.iconst (v := 0) dL_played_17 (by decide) ?_
      exact hr _ _ dL_played_18
    · subst e
      dsimp only at hf
      by_cases hk0 : k = 0
      · subst hk0
        exact ⟨[], _, _, rfl, by decide, by decide, rfl, lcl_RL_18, fun z hz => nomatch hz⟩
      · simp [hk0] at hf
    · subst e
      dsimp only at hf
      by_cases hk0 : k = 0
      · subst hk0
        cases hf
        show w1 _ 13 _ _
        refine h.r.astore dL_played_13 (by decide) rfl ?_
        refine h.r.iconst (v := 1) dL_played_15 (by decide) ?_
        exact hr _ _ dL_played_16
      · simp [hk0] at hf
def f_L_spans (x : Nat) (x1_ : Int32) (x2_ : Int32) (o : Nat) (M : Mem) : Option (Int32 × Mem) := bd (f_X10_spans x x1_ x2_ M) (fun r M1 => match r with
  | .inl v => some (0, wl M1 o 0 v.toInt64)
  | .inr k => if k = 0 then some (1, M1) else if k = 1 then some (2, M1) else none)
theorem c_L_spans {G : Ctx} (hfl : (gl G).stackTraces = false) (hW : WFG G) {x o : Nat} {x1_ x2_ : Int32} {M M' : Mem} {r : Int32} (h0 : hs G x (0, 10)) (ho : hs G o (3, 1)) (hf : f_L_spans x x1_ x2_ o M = some (r, M')) : CtW G yL_spans cL_spans 5 [(0, 10, 13, 18), (0, 10, 17, 13)] 11 223 [.ref x, .int x1_, .int x2_, .ref o] M r M' := by
  unfold f_L_spans bd at hf
  cases hq : f_X10_spans x x1_ x2_ M with
  | none => rw [hq] at hf; cases hf
  | some q =>
    obtain ⟨res, M1⟩ := q
    rw [hq] at hf
    have hc := c_X10_spans hfl hW h0 hq
    refine ct_w hW (by decide +kernel) (Nat.le_of_ble_eq_true rfl) (fun w w1 h hr => ?_)
    have h : RbX G cL_spans RL 5 11 223 [(0, 10, 13, 18), (0, 10, 17, 13)] w w1 := h
    show w M 0 [(0, .ref x), (1, .int x1_), (2, .int x2_), (3, .ref o)] []
    refine h.l.aload_n 3 dL_spans_0 rfl ?_
    refine h.l.iconst (v := 0) dL_spans_1 (by decide) ?_
    refine h.l.aload_n 0 dL_spans_2 rfl ?_
    refine h.l.iload_n 1 dL_spans_3 rfl ?_
    refine h.l.iload_n 2 dL_spans_4 rfl ?_
    refine h.callX (As := [.int x1_, .int x2_]) (rest := [.int 0, .ref o]) (fun k => if k = 0 then 13 else 17) hc lm_X10_spans lv_m_X10_spans ll_RL_33 h0 lc_10 rfl rfl (Nat.le_of_ble_eq_true rfl) (by decide) dL_spans_5 (fun v e => ?_) (fun k e => ?_) (fun k q e => ?_)
    · subst e
      cases hf
      refine h.r.i2l dL_spans_8 ?_
      refine h.r.last ho (by decide) dL_spans_9 ?_
      refine h.r.goto (tgt := 21) dL_spans_10 (by decide) ?_
      refine h.r.iconst (v := 0) dL_spans_21 (by decide) ?_
      exact hr _ _ dL_spans_22
    · subst e
      dsimp only at hf
      by_cases hk0 : k = 0
      · subst hk0
        exact ⟨[], _, _, rfl, by decide, by decide, rfl, lcl_RL_18, fun z hz => nomatch hz⟩
      by_cases hk1 : k = 1
      · subst hk1
        exact ⟨[_], _, _, rfl, by decide, by decide, rfl, lcl_RL_13, fun z hz => by
          rcases List.mem_cons.mp hz with rfl | hz
          · exact ⟨by decide, by decide, lcl_RL_18⟩
          · cases hz⟩
      · simp [hk0, hk1] at hf
    · subst e
      dsimp only at hf
      by_cases hk0 : k = 0
      · subst hk0
        cases hf
        show w1 _ 13 _ _
        refine h.r.astore dL_spans_13 (by decide) rfl ?_
        refine h.r.iconst (v := 1) dL_spans_15 (by decide) ?_
        exact hr _ _ dL_spans_16
      by_cases hk1 : k = 1
      · subst hk1
        cases hf
        show w1 _ 17 _ _
        refine h.r.astore dL_spans_17 (by decide) rfl ?_
        refine h.r.iconst (v := 2) dL_spans_19 (by decide) ?_
        exact hr _ _ dL_spans_20
      · simp [hk0, hk1] at hf
def f_L_sample (x : Nat) (x1_ : Int32) (o : Nat) (M : Mem) : Option (Int32 × Mem) := bd (f_X10_sample x x1_ M) (fun r M1 => match r with
  | .inl v => some (0, wl M1 o 0 v.toInt64)
  | .inr k => if k = 0 then some (1, M1) else none)
theorem c_L_sample {G : Ctx} (hfl : (gl G).stackTraces = false) (hW : WFG G) {x o : Nat} {x1_ : Int32} {M M' : Mem} {r : Int32} (h0 : hs G x (0, 10)) (ho : hs G o (3, 1)) (hf : f_L_sample x x1_ o M = some (r, M')) : CtW G yL_sample cL_sample 4 [(0, 9, 12, 18)] 11 222 [.ref x, .int x1_, .ref o] M r M' := by
  unfold f_L_sample bd at hf
  cases hq : f_X10_sample x x1_ M with
  | none => rw [hq] at hf; cases hf
  | some q =>
    obtain ⟨res, M1⟩ := q
    rw [hq] at hf
    have hc := c_X10_sample hfl hW h0 hq
    refine ct_w hW (by decide +kernel) (Nat.le_of_ble_eq_true rfl) (fun w w1 h hr => ?_)
    have h : RbX G cL_sample RL 4 11 222 [(0, 9, 12, 18)] w w1 := h
    show w M 0 [(0, .ref x), (1, .int x1_), (2, .ref o)] []
    refine h.l.aload_n 2 dL_sample_0 rfl ?_
    refine h.l.iconst (v := 0) dL_sample_1 (by decide) ?_
    refine h.l.aload_n 0 dL_sample_2 rfl ?_
    refine h.l.iload_n 1 dL_sample_3 rfl ?_
    refine h.callX (As := [.int x1_]) (rest := [.int 0, .ref o]) (fun k => 12) hc lm_X10_sample lv_m_X10_sample ll_RL_36 h0 lc_10 rfl rfl (Nat.le_of_ble_eq_true rfl) (by decide) dL_sample_4 (fun v e => ?_) (fun k e => ?_) (fun k q e => ?_)
    · subst e
      cases hf
      refine h.r.i2l dL_sample_7 ?_
      refine h.r.last ho (by decide) dL_sample_8 ?_
      refine h.r.goto (tgt := 15) dL_sample_9 (by decide) ?_
      refine h.r.iconst (v := 0) dL_sample_15 (by decide) ?_
      exact hr _ _ dL_sample_16
    · subst e
      dsimp only at hf
      by_cases hk0 : k = 0
      · subst hk0
        exact ⟨[], _, _, rfl, by decide, by decide, rfl, lcl_RL_18, fun z hz => nomatch hz⟩
      · simp [hk0] at hf
    · subst e
      dsimp only at hf
      by_cases hk0 : k = 0
      · subst hk0
        cases hf
        show w1 _ 12 _ _
        refine h.r.astore_n dL_sample_12 (by decide) rfl ?_
        refine h.r.iconst (v := 1) dL_sample_13 (by decide) ?_
        exact hr _ _ dL_sample_14
      · simp [hk0] at hf
def f_L_wander (x : Nat) (x1_ : Int32) (o : Nat) (M : Mem) : Option (Int32 × Mem) := bd (f_X10_wander x x1_ M) (fun r M1 => match r with
  | .inl v => some (0, wl M1 o 0 v.toInt64)
  | .inr k => if k = 1 then some (1, M1) else none)
theorem c_L_wander {G : Ctx} (hfl : (gl G).stackTraces = false) (hW : WFG G) {x o : Nat} {x1_ : Int32} {M M' : Mem} {r : Int32} (h0 : hs G x (0, 10)) (ho : hs G o (3, 1)) (hf : f_L_wander x x1_ o M = some (r, M')) : CtW G yL_wander cL_wander 4 [(0, 9, 12, 13)] 11 221 [.ref x, .int x1_, .ref o] M r M' := by
  unfold f_L_wander bd at hf
  cases hq : f_X10_wander x x1_ M with
  | none => rw [hq] at hf; cases hf
  | some q =>
    obtain ⟨res, M1⟩ := q
    rw [hq] at hf
    have hc := c_X10_wander hfl hW h0 hq
    refine ct_w hW (by decide +kernel) (Nat.le_of_ble_eq_true rfl) (fun w w1 h hr => ?_)
    have h : RbX G cL_wander RL 4 11 221 [(0, 9, 12, 13)] w w1 := h
    show w M 0 [(0, .ref x), (1, .int x1_), (2, .ref o)] []
    refine h.l.aload_n 2 dL_wander_0 rfl ?_
    refine h.l.iconst (v := 0) dL_wander_1 (by decide) ?_
    refine h.l.aload_n 0 dL_wander_2 rfl ?_
    refine h.l.iload_n 1 dL_wander_3 rfl ?_
    refine h.callX (As := [.int x1_]) (rest := [.int 0, .ref o]) (fun k => 12) hc lm_X10_wander lv_m_X10_wander ll_RL_39 h0 lc_10 rfl rfl (Nat.le_of_ble_eq_true rfl) (by decide) dL_wander_4 (fun v e => ?_) (fun k e => ?_) (fun k q e => ?_)
    · subst e
      cases hf
      refine h.r.i2l dL_wander_7 ?_
      refine h.r.last ho (by decide) dL_wander_8 ?_
      refine h.r.goto (tgt := 15) dL_wander_9 (by decide) ?_
      refine h.r.iconst (v := 0) dL_wander_15 (by decide) ?_
      exact hr _ _ dL_wander_16
    · subst e
      dsimp only at hf
      by_cases hk0 : k = 1
      · subst hk0
        exact ⟨[], _, _, rfl, by decide, by decide, rfl, lcl_RL_13, fun z hz => nomatch hz⟩
      · simp [hk0] at hf
    · subst e
      dsimp only at hf
      by_cases hk0 : k = 1
      · subst hk0
        cases hf
        show w1 _ 12 _ _
        refine h.r.astore_n dL_wander_12 (by decide) rfl ?_
        refine h.r.iconst (v := 1) dL_wander_13 (by decide) ?_
        exact hr _ _ dL_wander_14
      · simp [hk0] at hf
def f_L_turn (x : Nat) (x1_ : Int32) (x2_ : Int32) (o : Nat) (M : Mem) : Option (Int32 × Mem) := bd (f_X10_turn x x1_ x2_ M) (fun r M1 => match r with
  | .inl v => some (0, wl M1 o 0 v.toInt64)
  | .inr k => if k = 0 then some (1, M1) else none)
theorem c_L_turn {G : Ctx} (hfl : (gl G).stackTraces = false) (hW : WFG G) {x o : Nat} {x1_ x2_ : Int32} {M M' : Mem} {r : Int32} (h0 : hs G x (0, 10)) (ho : hs G o (3, 1)) (hf : f_L_turn x x1_ x2_ o M = some (r, M')) : CtW G yL_turn cL_turn 5 [(0, 10, 13, 18)] 11 223 [.ref x, .int x1_, .int x2_, .ref o] M r M' := by
  unfold f_L_turn bd at hf
  cases hq : f_X10_turn x x1_ x2_ M with
  | none => rw [hq] at hf; cases hf
  | some q =>
    obtain ⟨res, M1⟩ := q
    rw [hq] at hf
    have hc := c_X10_turn hfl hW h0 hq
    refine ct_w hW (by decide +kernel) (Nat.le_of_ble_eq_true rfl) (fun w w1 h hr => ?_)
    have h : RbX G cL_turn RL 5 11 223 [(0, 10, 13, 18)] w w1 := h
    show w M 0 [(0, .ref x), (1, .int x1_), (2, .int x2_), (3, .ref o)] []
    refine h.l.aload_n 3 dL_turn_0 rfl ?_
    refine h.l.iconst (v := 0) dL_turn_1 (by decide) ?_
    refine h.l.aload_n 0 dL_turn_2 rfl ?_
    refine h.l.iload_n 1 dL_turn_3 rfl ?_
    refine h.l.iload_n 2 dL_turn_4 rfl ?_
    refine h.callX (As := [.int x1_, .int x2_]) (rest := [.int 0, .ref o]) (fun k => 13) hc lm_X10_turn lv_m_X10_turn ll_RL_42 h0 lc_10 rfl rfl (Nat.le_of_ble_eq_true rfl) (by decide) dL_turn_5 (fun v e => ?_) (fun k e => ?_) (fun k q e => ?_)
    · subst e
      cases hf
      refine h.r.i2l dL_turn_8 ?_
      refine h.r.last ho (by decide) dL_turn_9 ?_
      refine h.r.goto (tgt := 17) dL_turn_10 (by decide) ?_
      refine h.r.iconst (v := 0) dL_turn_17 (by decide) ?_
      exact hr _ _ dL_turn_18
    · subst e
      dsimp only at hf
      by_cases hk0 : k = 0
      · subst hk0
        exact ⟨[], _, _, rfl, by decide, by decide, rfl, lcl_RL_18, fun z hz => nomatch hz⟩
      · simp [hk0] at hf
    · subst e
      dsimp only at hf
      by_cases hk0 : k = 0
      · subst hk0
        cases hf
        show w1 _ 13 _ _
        refine h.r.astore dL_turn_13 (by decide) rfl ?_
        refine h.r.iconst (v := 1) dL_turn_15 (by decide) ?_
        exact hr _ _ dL_turn_16
      · simp [hk0] at hf
def f_L_then (x : Nat) (x1_ : Int32) (x2_ : Int32) (o : Nat) (M : Mem) : Option (Int32 × Mem) := bd (f_X10_then x x1_ x2_ M) (fun r M1 => match r with
  | .inl v => some (0, wl M1 o 0 v.toInt64)
  | .inr k => if k = 0 then some (1, M1) else if k = 1 then some (2, M1) else none)
theorem c_L_then {G : Ctx} (hfl : (gl G).stackTraces = false) (hW : WFG G) {x o : Nat} {x1_ x2_ : Int32} {M M' : Mem} {r : Int32} (h0 : hs G x (0, 10)) (ho : hs G o (3, 1)) (hf : f_L_then x x1_ x2_ o M = some (r, M')) : CtW G yL_then cL_then 5 [(0, 10, 13, 18), (0, 10, 17, 13)] 11 222 [.ref x, .int x1_, .int x2_, .ref o] M r M' := by
  unfold f_L_then bd at hf
  cases hq : f_X10_then x x1_ x2_ M with
  | none => rw [hq] at hf; cases hf
  | some q =>
    obtain ⟨res, M1⟩ := q
    rw [hq] at hf
    have hc := c_X10_then hfl hW h0 hq
    refine ct_w hW (by decide +kernel) (Nat.le_of_ble_eq_true rfl) (fun w w1 h hr => ?_)
    have h : RbX G cL_then RL 5 11 222 [(0, 10, 13, 18), (0, 10, 17, 13)] w w1 := h
    show w M 0 [(0, .ref x), (1, .int x1_), (2, .int x2_), (3, .ref o)] []
    refine h.l.aload_n 3 dL_then_0 rfl ?_
    refine h.l.iconst (v := 0) dL_then_1 (by decide) ?_
    refine h.l.aload_n 0 dL_then_2 rfl ?_
    refine h.l.iload_n 1 dL_then_3 rfl ?_
    refine h.l.iload_n 2 dL_then_4 rfl ?_
    refine h.callX (As := [.int x1_, .int x2_]) (rest := [.int 0, .ref o]) (fun k => if k = 0 then 13 else 17) hc lm_X10_then lv_m_X10_then ll_RL_45 h0 lc_10 rfl rfl (Nat.le_of_ble_eq_true rfl) (by decide) dL_then_5 (fun v e => ?_) (fun k e => ?_) (fun k q e => ?_)
    · subst e
      cases hf
      refine h.r.i2l dL_then_8 ?_
      refine h.r.last ho (by decide) dL_then_9 ?_
      refine h.r.goto (tgt := 21) dL_then_10 (by decide) ?_
      refine h.r.iconst (v := 0) dL_then_21 (by decide) ?_
      exact hr _ _ dL_then_22
    · subst e
      dsimp only at hf
      by_cases hk0 : k = 0
      · subst hk0
        exact ⟨[], _, _, rfl, by decide, by decide, rfl, lcl_RL_18, fun z hz => nomatch hz⟩
      by_cases hk1 : k = 1
      · subst hk1
        exact ⟨[_], _, _, rfl, by decide, by decide, rfl, lcl_RL_13, fun z hz => by
          rcases List.mem_cons.mp hz with rfl | hz
          · exact ⟨by decide, by decide, lcl_RL_18⟩
          · cases hz⟩
      · simp [hk0, hk1] at hf
    · subst e
      dsimp only at hf
      by_cases hk0 : k = 0
      · subst hk0
        cases hf
        show w1 _ 13 _ _
        refine h.r.astore dL_then_13 (by decide) rfl ?_
        refine h.r.iconst (v := 1) dL_then_15 (by decide) ?_
        exact hr _ _ dL_then_16
      by_cases hk1 : k = 1
      · subst hk1
        cases hf
        show w1 _ 17 _ _
        refine h.r.astore dL_then_17 (by decide) rfl ?_
        refine h.r.iconst (v := 2) dL_then_19 (by decide) ?_
        exact hr _ _ dL_then_20
      · simp [hk0, hk1] at hf
def f_L_when (x : Nat) (x1_ : Int32) (o : Nat) (M : Mem) : Option (Int32 × Mem) := bd (f_X10_when x x1_ M) (fun r M1 => match r with
  | .inl v => some (0, wl M1 o 0 v.toInt64)
  | .inr k => if k = 0 then some (1, M1) else none)
theorem c_L_when {G : Ctx} (hfl : (gl G).stackTraces = false) (hW : WFG G) {x o : Nat} {x1_ : Int32} {M M' : Mem} {r : Int32} (h0 : hs G x (0, 10)) (ho : hs G o (3, 1)) (hf : f_L_when x x1_ o M = some (r, M')) : CtW G yL_when cL_when 4 [(0, 9, 12, 18)] 11 221 [.ref x, .int x1_, .ref o] M r M' := by
  unfold f_L_when bd at hf
  cases hq : f_X10_when x x1_ M with
  | none => rw [hq] at hf; cases hf
  | some q =>
    obtain ⟨res, M1⟩ := q
    rw [hq] at hf
    have hc := c_X10_when hfl hW h0 hq
    refine ct_w hW (by decide +kernel) (Nat.le_of_ble_eq_true rfl) (fun w w1 h hr => ?_)
    have h : RbX G cL_when RL 4 11 221 [(0, 9, 12, 18)] w w1 := h
    show w M 0 [(0, .ref x), (1, .int x1_), (2, .ref o)] []
    refine h.l.aload_n 2 dL_when_0 rfl ?_
    refine h.l.iconst (v := 0) dL_when_1 (by decide) ?_
    refine h.l.aload_n 0 dL_when_2 rfl ?_
    refine h.l.iload_n 1 dL_when_3 rfl ?_
    refine h.callX (As := [.int x1_]) (rest := [.int 0, .ref o]) (fun k => 12) hc lm_X10_when lv_m_X10_when ll_RL_48 h0 lc_10 rfl rfl (Nat.le_of_ble_eq_true rfl) (by decide) dL_when_4 (fun v e => ?_) (fun k e => ?_) (fun k q e => ?_)
    · subst e
      cases hf
      refine h.r.i2l dL_when_7 ?_
      refine h.r.last ho (by decide) dL_when_8 ?_
      refine h.r.goto (tgt := 15) dL_when_9 (by decide) ?_
      refine h.r.iconst (v := 0) dL_when_15 (by decide) ?_
      exact hr _ _ dL_when_16
    · subst e
      dsimp only at hf
      by_cases hk0 : k = 0
      · subst hk0
        exact ⟨[], _, _, rfl, by decide, by decide, rfl, lcl_RL_18, fun z hz => nomatch hz⟩
      · simp [hk0] at hf
    · subst e
      dsimp only at hf
      by_cases hk0 : k = 0
      · subst hk0
        cases hf
        show w1 _ 12 _ _
        refine h.r.astore_n dL_when_12 (by decide) rfl ?_
        refine h.r.iconst (v := 1) dL_when_13 (by decide) ?_
        exact hr _ _ dL_when_14
      · simp [hk0] at hf
def f_L_toAim (x : Nat) (x1_ : Int32) (x2_ : Int32) (o : Nat) (M : Mem) : Option (Int32 × Mem) := bd (f_X10_toAim x x1_ x2_ M) (fun r M1 => match r with
  | .inl v => some (0, wl M1 o 0 v.toInt64)
  | .inr k => if k = 0 then some (1, M1) else if k = 1 then some (2, M1) else none)
theorem c_L_toAim {G : Ctx} (hfl : (gl G).stackTraces = false) (hW : WFG G) {x o : Nat} {x1_ x2_ : Int32} {M M' : Mem} {r : Int32} (h0 : hs G x (0, 10)) (ho : hs G o (3, 1)) (hf : f_L_toAim x x1_ x2_ o M = some (r, M')) : CtW G yL_toAim cL_toAim 5 [(0, 10, 13, 18), (0, 10, 17, 13)] 11 222 [.ref x, .int x1_, .int x2_, .ref o] M r M' := by
  unfold f_L_toAim bd at hf
  cases hq : f_X10_toAim x x1_ x2_ M with
  | none => rw [hq] at hf; cases hf
  | some q =>
    obtain ⟨res, M1⟩ := q
    rw [hq] at hf
    have hc := c_X10_toAim hfl hW h0 hq
    refine ct_w hW (by decide +kernel) (Nat.le_of_ble_eq_true rfl) (fun w w1 h hr => ?_)
    have h : RbX G cL_toAim RL 5 11 222 [(0, 10, 13, 18), (0, 10, 17, 13)] w w1 := h
    show w M 0 [(0, .ref x), (1, .int x1_), (2, .int x2_), (3, .ref o)] []
    refine h.l.aload_n 3 dL_toAim_0 rfl ?_
    refine h.l.iconst (v := 0) dL_toAim_1 (by decide) ?_
    refine h.l.aload_n 0 dL_toAim_2 rfl ?_
    refine h.l.iload_n 1 dL_toAim_3 rfl ?_
    refine h.l.iload_n 2 dL_toAim_4 rfl ?_
    refine h.callX (As := [.int x1_, .int x2_]) (rest := [.int 0, .ref o]) (fun k => if k = 0 then 13 else 17) hc lm_X10_toAim lv_m_X10_toAim ll_RL_51 h0 lc_10 rfl rfl (Nat.le_of_ble_eq_true rfl) (by decide) dL_toAim_5 (fun v e => ?_) (fun k e => ?_) (fun k q e => ?_)
    · subst e
      cases hf
      refine h.r.i2l dL_toAim_8 ?_
      refine h.r.last ho (by decide) dL_toAim_9 ?_
      refine h.r.goto (tgt := 21) dL_toAim_10 (by decide) ?_
      refine h.r.iconst (v := 0) dL_toAim_21 (by decide) ?_
      exact hr _ _ dL_toAim_22
    · subst e
      dsimp only at hf
      by_cases hk0 : k = 0
      · subst hk0
        exact ⟨[], _, _, rfl, by decide, by decide, rfl, lcl_RL_18, fun z hz => nomatch hz⟩
      by_cases hk1 : k = 1
      · subst hk1
        exact ⟨[_], _, _, rfl, by decide, by decide, rfl, lcl_RL_13, fun z hz => by
          rcases List.mem_cons.mp hz with rfl | hz
          · exact ⟨by decide, by decide, lcl_RL_18⟩
          · cases hz⟩
      · simp [hk0, hk1] at hf
    · subst e
      dsimp only at hf
      by_cases hk0 : k = 0
      · subst hk0
        cases hf
        show w1 _ 13 _ _
        refine h.r.astore dL_toAim_13 (by decide) rfl ?_
        refine h.r.iconst (v := 1) dL_toAim_15 (by decide) ?_
        exact hr _ _ dL_toAim_16
      by_cases hk1 : k = 1
      · subst hk1
        cases hf
        show w1 _ 17 _ _
        refine h.r.astore dL_toAim_17 (by decide) rfl ?_
        refine h.r.iconst (v := 2) dL_toAim_19 (by decide) ?_
        exact hr _ _ dL_toAim_20
      · simp [hk0, hk1] at hf
def f_L_toGain (x : Nat) (x1_ : Int32) (x2_ : Int32) (o : Nat) (M : Mem) : Option (Int32 × Mem) := bd (f_X10_toGain x x1_ x2_ M) (fun r M1 => match r with
  | .inl v => some (0, wl M1 o 0 v.toInt64)
  | .inr k => if k = 0 then some (1, M1) else if k = 1 then some (2, M1) else none)
theorem c_L_toGain {G : Ctx} (hfl : (gl G).stackTraces = false) (hW : WFG G) {x o : Nat} {x1_ x2_ : Int32} {M M' : Mem} {r : Int32} (h0 : hs G x (0, 10)) (ho : hs G o (3, 1)) (hf : f_L_toGain x x1_ x2_ o M = some (r, M')) : CtW G yL_toGain cL_toGain 5 [(0, 10, 13, 18), (0, 10, 17, 13)] 11 222 [.ref x, .int x1_, .int x2_, .ref o] M r M' := by
  unfold f_L_toGain bd at hf
  cases hq : f_X10_toGain x x1_ x2_ M with
  | none => rw [hq] at hf; cases hf
  | some q =>
    obtain ⟨res, M1⟩ := q
    rw [hq] at hf
    have hc := c_X10_toGain hfl hW h0 hq
    refine ct_w hW (by decide +kernel) (Nat.le_of_ble_eq_true rfl) (fun w w1 h hr => ?_)
    have h : RbX G cL_toGain RL 5 11 222 [(0, 10, 13, 18), (0, 10, 17, 13)] w w1 := h
    show w M 0 [(0, .ref x), (1, .int x1_), (2, .int x2_), (3, .ref o)] []
    refine h.l.aload_n 3 dL_toGain_0 rfl ?_
    refine h.l.iconst (v := 0) dL_toGain_1 (by decide) ?_
    refine h.l.aload_n 0 dL_toGain_2 rfl ?_
    refine h.l.iload_n 1 dL_toGain_3 rfl ?_
    refine h.l.iload_n 2 dL_toGain_4 rfl ?_
    refine h.callX (As := [.int x1_, .int x2_]) (rest := [.int 0, .ref o]) (fun k => if k = 0 then 13 else 17) hc lm_X10_toGain lv_m_X10_toGain ll_RL_54 h0 lc_10 rfl rfl (Nat.le_of_ble_eq_true rfl) (by decide) dL_toGain_5 (fun v e => ?_) (fun k e => ?_) (fun k q e => ?_)
    · subst e
      cases hf
      refine h.r.i2l dL_toGain_8 ?_
      refine h.r.last ho (by decide) dL_toGain_9 ?_
      refine h.r.goto (tgt := 21) dL_toGain_10 (by decide) ?_
      refine h.r.iconst (v := 0) dL_toGain_21 (by decide) ?_
      exact hr _ _ dL_toGain_22
    · subst e
      dsimp only at hf
      by_cases hk0 : k = 0
      · subst hk0
        exact ⟨[], _, _, rfl, by decide, by decide, rfl, lcl_RL_18, fun z hz => nomatch hz⟩
      by_cases hk1 : k = 1
      · subst hk1
        exact ⟨[_], _, _, rfl, by decide, by decide, rfl, lcl_RL_13, fun z hz => by
          rcases List.mem_cons.mp hz with rfl | hz
          · exact ⟨by decide, by decide, lcl_RL_18⟩
          · cases hz⟩
      · simp [hk0, hk1] at hf
    · subst e
      dsimp only at hf
      by_cases hk0 : k = 0
      · subst hk0
        cases hf
        show w1 _ 13 _ _
        refine h.r.astore dL_toGain_13 (by decide) rfl ?_
        refine h.r.iconst (v := 1) dL_toGain_15 (by decide) ?_
        exact hr _ _ dL_toGain_16
      by_cases hk1 : k = 1
      · subst hk1
        cases hf
        show w1 _ 17 _ _
        refine h.r.astore dL_toGain_17 (by decide) rfl ?_
        refine h.r.iconst (v := 2) dL_toGain_19 (by decide) ?_
        exact hr _ _ dL_toGain_20
      · simp [hk0, hk1] at hf
def f_L_other (x : Nat) (x1_ : Int32) (o : Nat) (M : Mem) : Option (Int32 × Mem) := bd (f_X10_other x x1_ M) (fun r M1 => match r with
  | .inl v => some (0, wl M1 o 0 v.toInt64)
  | .inr k => if k = 0 then some (1, M1) else none)
theorem c_L_other {G : Ctx} (hfl : (gl G).stackTraces = false) (hW : WFG G) {x o : Nat} {x1_ : Int32} {M M' : Mem} {r : Int32} (h0 : hs G x (0, 10)) (ho : hs G o (3, 1)) (hf : f_L_other x x1_ o M = some (r, M')) : CtW G yL_other cL_other 4 [(0, 9, 12, 18)] 11 221 [.ref x, .int x1_, .ref o] M r M' := by
  unfold f_L_other bd at hf
  cases hq : f_X10_other x x1_ M with
  | none => rw [hq] at hf; cases hf
  | some q =>
    obtain ⟨res, M1⟩ := q
    rw [hq] at hf
    have hc := c_X10_other hfl hW h0 hq
    refine ct_w hW (by decide +kernel) (Nat.le_of_ble_eq_true rfl) (fun w w1 h hr => ?_)
    have h : RbX G cL_other RL 4 11 221 [(0, 9, 12, 18)] w w1 := h
    show w M 0 [(0, .ref x), (1, .int x1_), (2, .ref o)] []
    refine h.l.aload_n 2 dL_other_0 rfl ?_
    refine h.l.iconst (v := 0) dL_other_1 (by decide) ?_
    refine h.l.aload_n 0 dL_other_2 rfl ?_
    refine h.l.iload_n 1 dL_other_3 rfl ?_
    refine h.callX (As := [.int x1_]) (rest := [.int 0, .ref o]) (fun k => 12) hc lm_X10_other lv_m_X10_other ll_RL_57 h0 lc_10 rfl rfl (Nat.le_of_ble_eq_true rfl) (by decide) dL_other_4 (fun v e => ?_) (fun k e => ?_) (fun k q e => ?_)
    · subst e
      cases hf
      refine h.r.i2l dL_other_7 ?_
      refine h.r.last ho (by decide) dL_other_8 ?_
      refine h.r.goto (tgt := 15) dL_other_9 (by decide) ?_
      refine h.r.iconst (v := 0) dL_other_15 (by decide) ?_
      exact hr _ _ dL_other_16
    · subst e
      dsimp only at hf
      by_cases hk0 : k = 0
      · subst hk0
        exact ⟨[], _, _, rfl, by decide, by decide, rfl, lcl_RL_18, fun z hz => nomatch hz⟩
      · simp [hk0] at hf
    · subst e
      dsimp only at hf
      by_cases hk0 : k = 0
      · subst hk0
        cases hf
        show w1 _ 12 _ _
        refine h.r.astore_n dL_other_12 (by decide) rfl ?_
        refine h.r.iconst (v := 1) dL_other_13 (by decide) ?_
        exact hr _ _ dL_other_14
      · simp [hk0] at hf
def f_L_look (x : Nat) (x1_ : Int32) (o : Nat) (M : Mem) : Option (Int32 × Mem) := bd (f_X10_look x x1_ M) (fun r M1 => match r with
  | .inl v => some (0, wl M1 o 0 v.toInt64)
  | .inr k => if k = 0 then some (1, M1) else none)
theorem c_L_look {G : Ctx} (hfl : (gl G).stackTraces = false) (hW : WFG G) {x o : Nat} {x1_ : Int32} {M M' : Mem} {r : Int32} (h0 : hs G x (0, 10)) (ho : hs G o (3, 1)) (hf : f_L_look x x1_ o M = some (r, M')) : CtW G yL_look cL_look 4 [(0, 9, 12, 18)] 11 221 [.ref x, .int x1_, .ref o] M r M' := by
  unfold f_L_look bd at hf
  cases hq : f_X10_look x x1_ M with
  | none => rw [hq] at hf; cases hf
  | some q =>
    obtain ⟨res, M1⟩ := q
    rw [hq] at hf
    have hc := c_X10_look hfl hW h0 hq
    refine ct_w hW (by decide +kernel) (Nat.le_of_ble_eq_true rfl) (fun w w1 h hr => ?_)
    have h : RbX G cL_look RL 4 11 221 [(0, 9, 12, 18)] w w1 := h
    show w M 0 [(0, .ref x), (1, .int x1_), (2, .ref o)] []
    refine h.l.aload_n 2 dL_look_0 rfl ?_
    refine h.l.iconst (v := 0) dL_look_1 (by decide) ?_
    refine h.l.aload_n 0 dL_look_2 rfl ?_
    refine h.l.iload_n 1 dL_look_3 rfl ?_
    refine h.callX (As := [.int x1_]) (rest := [.int 0, .ref o]) (fun k => 12) hc lm_X10_look lv_m_X10_look ll_RL_60 h0 lc_10 rfl rfl (Nat.le_of_ble_eq_true rfl) (by decide) dL_look_4 (fun v e => ?_) (fun k e => ?_) (fun k q e => ?_)
    · subst e
      cases hf
      refine h.r.i2l dL_look_7 ?_
      refine h.r.last ho (by decide) dL_look_8 ?_
      refine h.r.goto (tgt := 15) dL_look_9 (by decide) ?_
      refine h.r.iconst (v := 0) dL_look_15 (by decide) ?_
      exact hr _ _ dL_look_16
    · subst e
      dsimp only at hf
      by_cases hk0 : k = 0
      · subst hk0
        exact ⟨[], _, _, rfl, by decide, by decide, rfl, lcl_RL_18, fun z hz => nomatch hz⟩
      · simp [hk0] at hf
    · subst e
      dsimp only at hf
      by_cases hk0 : k = 0
      · subst hk0
        cases hf
        show w1 _ 12 _ _
        refine h.r.astore_n dL_look_12 (by decide) rfl ?_
        refine h.r.iconst (v := 1) dL_look_13 (by decide) ?_
        exact hr _ _ dL_look_14
      · simp [hk0] at hf
def f_L_storms (x : Nat) (x1_ : Int32) (x2_ : Int32) (o : Nat) (M : Mem) : Option (Int32 × Mem) := bd (f_X10_storms x x1_ x2_ M) (fun r M1 => match r with
  | .inl v => some (0, wl M1 o 0 v.toInt64)
  | .inr k => if k = 1 then some (1, M1) else none)
theorem c_L_storms {G : Ctx} (hfl : (gl G).stackTraces = false) (hW : WFG G) {x o : Nat} {x1_ x2_ : Int32} {M M' : Mem} {r : Int32} (h0 : hs G x (0, 10)) (ho : hs G o (3, 1)) (hf : f_L_storms x x1_ x2_ o M = some (r, M')) : CtW G yL_storms cL_storms 5 [(0, 10, 13, 13)] 11 222 [.ref x, .int x1_, .int x2_, .ref o] M r M' := by
  unfold f_L_storms bd at hf
  cases hq : f_X10_storms x x1_ x2_ M with
  | none => rw [hq] at hf; cases hf
  | some q =>
    obtain ⟨res, M1⟩ := q
    rw [hq] at hf
    have hc := c_X10_storms hfl hW h0 hq
    refine ct_w hW (by decide +kernel) (Nat.le_of_ble_eq_true rfl) (fun w w1 h hr => ?_)
    have h : RbX G cL_storms RL 5 11 222 [(0, 10, 13, 13)] w w1 := h
    show w M 0 [(0, .ref x), (1, .int x1_), (2, .int x2_), (3, .ref o)] []
    refine h.l.aload_n 3 dL_storms_0 rfl ?_
    refine h.l.iconst (v := 0) dL_storms_1 (by decide) ?_
    refine h.l.aload_n 0 dL_storms_2 rfl ?_
    refine h.l.iload_n 1 dL_storms_3 rfl ?_
    refine h.l.iload_n 2 dL_storms_4 rfl ?_
    refine h.callX (As := [.int x1_, .int x2_]) (rest := [.int 0, .ref o]) (fun k => 13) hc lm_X10_storms lv_m_X10_storms ll_RL_63 h0 lc_10 rfl rfl (Nat.le_of_ble_eq_true rfl) (by decide) dL_storms_5 (fun v e => ?_) (fun k e => ?_) (fun k q e => ?_)
    · subst e
      cases hf
      refine h.r.i2l dL_storms_8 ?_
      refine h.r.last ho (by decide) dL_storms_9 ?_
      refine h.r.goto (tgt := 17) dL_storms_10 (by decide) ?_
      refine h.r.iconst (v := 0) dL_storms_17 (by decide) ?_
      exact hr _ _ dL_storms_18
    · subst e
      dsimp only at hf
      by_cases hk0 : k = 1
      · subst hk0
        exact ⟨[], _, _, rfl, by decide, by decide, rfl, lcl_RL_13, fun z hz => nomatch hz⟩
      · simp [hk0] at hf
    · subst e
      dsimp only at hf
      by_cases hk0 : k = 1
      · subst hk0
        cases hf
        show w1 _ 13 _ _
        refine h.r.astore dL_storms_13 (by decide) rfl ?_
        refine h.r.iconst (v := 1) dL_storms_15 (by decide) ?_
        exact hr _ _ dL_storms_16
      · simp [hk0] at hf
def f_L_years (x : Nat) (x1_ : Int32) (x2_ : Int32) (x3_ : Int32) (o : Nat) (M : Mem) : Option (Int32 × Mem) := bd (f_X10_years x x1_ x2_ x3_ M) (fun r M1 => match r with
  | .inl v => some (0, wl M1 o 0 v.toInt64)
  | .inr k => if k = 0 then some (1, M1) else if k = 1 then some (2, M1) else none)
theorem c_L_years {G : Ctx} (hfl : (gl G).stackTraces = false) (hW : WFG G) {x o : Nat} {x1_ x2_ x3_ : Int32} {M M' : Mem} {r : Int32} (h0 : hs G x (0, 10)) (ho : hs G o (3, 1)) (hf : f_L_years x x1_ x2_ x3_ o M = some (r, M')) : CtW G yL_years cL_years 6 [(0, 12, 15, 18), (0, 12, 19, 13)] 11 223 [.ref x, .int x1_, .int x2_, .int x3_, .ref o] M r M' := by
  unfold f_L_years bd at hf
  cases hq : f_X10_years x x1_ x2_ x3_ M with
  | none => rw [hq] at hf; cases hf
  | some q =>
    obtain ⟨res, M1⟩ := q
    rw [hq] at hf
    have hc := c_X10_years hfl hW h0 hq
    refine ct_w hW (by decide +kernel) (Nat.le_of_ble_eq_true rfl) (fun w w1 h hr => ?_)
    have h : RbX G cL_years RL 6 11 223 [(0, 12, 15, 18), (0, 12, 19, 13)] w w1 := h
    show w M 0 [(0, .ref x), (1, .int x1_), (2, .int x2_), (3, .int x3_), (4, .ref o)] []
    refine h.l.aload 4 dL_years_0 rfl ?_
    refine h.l.iconst (v := 0) dL_years_2 (by decide) ?_
    refine h.l.aload_n 0 dL_years_3 rfl ?_
    refine h.l.iload_n 1 dL_years_4 rfl ?_
    refine h.l.iload_n 2 dL_years_5 rfl ?_
    refine h.l.iload_n 3 dL_years_6 rfl ?_
    refine h.callX (As := [.int x1_, .int x2_, .int x3_]) (rest := [.int 0, .ref o]) (fun k => if k = 0 then 15 else 19) hc lm_X10_years lv_m_X10_years ll_RL_66 h0 lc_10 rfl rfl (Nat.le_of_ble_eq_true rfl) (by decide) dL_years_7 (fun v e => ?_) (fun k e => ?_) (fun k q e => ?_)
    · subst e
      cases hf
      refine h.r.i2l dL_years_10 ?_
      refine h.r.last ho (by decide) dL_years_11 ?_
      refine h.r.goto (tgt := 23) dL_years_12 (by decide) ?_
      refine h.r.iconst (v := 0) dL_years_23 (by decide) ?_
      exact hr _ _ dL_years_24
    · subst e
      dsimp only at hf
      by_cases hk0 : k = 0
      · subst hk0
        exact ⟨[], _, _, rfl, by decide, by decide, rfl, lcl_RL_18, fun z hz => nomatch hz⟩
      by_cases hk1 : k = 1
      · subst hk1
        exact ⟨[_], _, _, rfl, by decide, by decide, rfl, lcl_RL_13, fun z hz => by
          rcases List.mem_cons.mp hz with rfl | hz
          · exact ⟨by decide, by decide, lcl_RL_18⟩
          · cases hz⟩
      · simp [hk0, hk1] at hf
    · subst e
      dsimp only at hf
      by_cases hk0 : k = 0
      · subst hk0
        cases hf
        show w1 _ 15 _ _
        refine h.r.astore dL_years_15 (by decide) rfl ?_
        refine h.r.iconst (v := 1) dL_years_17 (by decide) ?_
        exact hr _ _ dL_years_18
      by_cases hk1 : k = 1
      · subst hk1
        cases hf
        show w1 _ 19 _ _
        refine h.r.astore dL_years_19 (by decide) rfl ?_
        refine h.r.iconst (v := 2) dL_years_21 (by decide) ?_
        exact hr _ _ dL_years_22
      · simp [hk0, hk1] at hf
