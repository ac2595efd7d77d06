theorem gA_sub {G : Ctx} {a b : Nat} (h : a ≤ b) : ∀ q, gA G b q → gA G a q := fun _ hq => hq.imp id (Nat.le_trans h)
theorem SX.moved {u U : State} (hv : U.vm = u.vm) (h : SX u) : SX U := ⟨fun q hq => va_Nw.same rfl hv.symm (h.1 q hq), fun q hq => va_Nw.same rfl hv.symm (h.2.1 q hq), va_Nc.moved (by rw [hv]; exact Vm.Alike.refl _) h.2.2⟩
theorem SX.warm {s U : State} (hW : s.WarmedH U.vm) (h : SX s) : SX U := ⟨fun q hq => va_Nw.warmC hW (h.1 q hq), fun q hq => va_Nw.warmD hW (h.2.1 q hq), va_Nc.moved hW.alike h.2.2⟩
theorem SK.moved {G : Ctx} {sz : Nat} {u U : State} {H : Heap} (hv : U.vm = u.vm) (h : SK G sz u H) : SK G sz U H := by
  have ha : u.vm.Alike U.vm := by rw [hv]; exact Vm.Alike.refl _
  exact ⟨h.1.moved ha, fun q hq => (h.2.1 q hq).same hv, h.2.2.1.moved ha, h.2.2.2.1.moved ha, fun q hq => va_Nw.same rfl hv.symm (h.2.2.2.2.1 q hq), va_Z.moved ha h.2.2.2.2.2.1, va_Zq.moved ha h.2.2.2.2.2.2.1, SX.moved hv h.2.2.2.2.2.2.2⟩
theorem SK.warm {G : Ctx} {sz : Nat} {s U : State} {H : Heap} (hW : s.WarmedH U.vm) (h : SK G sz s H) : SK G sz U H := ⟨h.1.moved hW.alike, fun q hq => (h.2.1 q hq).warm hW, h.2.2.1.moved hW.alike, h.2.2.2.1.moved hW.alike, fun q hq => va_Nw.warmM hW (h.2.2.2.2.1 q hq), va_Z.moved hW.alike h.2.2.2.2.2.1, va_Zq.moved hW.alike h.2.2.2.2.2.2.1, SX.warm hW h.2.2.2.2.2.2.2⟩
theorem SK.kept {G : Ctx} {sz : Nat} {U : State} {H H1 : Heap} (h : SK G sz U H) (hq : ∀ a : Nat, a < H.size → ¬ gA G sz a → H1[a]? = H[a]?) : SK G sz U H1 := ⟨h.1.kept hq, h.2.1, h.2.2.1.kept hq, h.2.2.2.1.kept hq, h.2.2.2.2.1, h.2.2.2.2.2.1.kept hq, h.2.2.2.2.2.2.1.kept hq, h.2.2.2.2.2.2.2⟩
theorem SK.narrow {G : Ctx} {a b : Nat} {U : State} {H : Heap} (hab : a ≤ b) (h : SK G a U H) : SK G b U H := ⟨h.1.narrow (gA_sub hab), h.2.1, h.2.2.1.narrow (gA_sub hab), h.2.2.2.1.narrow (gA_sub hab), h.2.2.2.2.1, h.2.2.2.2.2.1.narrow (gA_sub hab), h.2.2.2.2.2.2.1.narrow (gA_sub hab), h.2.2.2.2.2.2.2⟩
theorem Pcm.blind {G : Ctx} {M : Mem} {sz : Nat} {av : List Value} : FrameBlind (va_Pc av (Pcm G M sz)) := fun a U g mk ⟨h1, h2, h3, h4, h5⟩ => ⟨h1, h2, h3, va_K.moved (u := U) (U := U.calling g mk a) (Vm.Alike.refl U.vm) h4, SK.moved (u := U) (U := U.calling g mk a) rfl h5⟩
def lkM (y : MethodName) (b : ByteArray) (mL : Nat) (ret : Option FieldType) (n : Nat) : Prop := Cond.code y b mL ret ∈ gw ∧ Cond.initialized y.cls ∈ gw ∧ (y.cls ≠ "java/lang/invoke/MethodHandle" ∧ y.cls ≠ "java/lang/invoke/VarHandle" ∧ (parseMethodDescriptor y.desc).map (fun d => d.parameters.length) = some n)
section CALLS
variable {G : Ctx} {cc : ByteArray} {own : String} {nL F Lo : Nat} {w : Mem → Nat → List (Nat × Value) → List Value → Prop} {M M' : Mem} {pc : Nat} {ls : List (Nat × Value)} {st : List Value}
variable {y : MethodName} {b : ByteArray} {mL F' Lo' n idx : Nat} {ret : Option FieldType} {rv : Option Value} {As rest st2 : List Value}
/-- behind a call that makes nothing -/
theorem wx_behind {p : Program} {e : Env} {R : Room} {s : State} {m : MethodId} {args : Array Value} {below : List Frame} {meth : Method} {c : Code} {H : Heap} {locs : List Loc} {kc ks : Nat} {Q : State → Prop} {lsA : Array Slot} {a9 : Array Value}
    (hS : va_S (gA G s.heap.size) s.heap H locs) (hl : lv_has lsA nL ls) (hst2 : rv.toList ++ rest = st2) (kk : WX G p e R s m args below meth c nL kc ks Q M' (pc + 3) ls st2)
    (hrun : va_Run p (gl G) e R s m args below meth c H locs kc ks 0 0 (F0 m pc lsA st) rest (QcM G rv M' H.size a9) (gA G H.size)) : W p (gl G) e R s m args below meth c H locs kc ks Q (F0 m pc lsA st) := by
  intro T hT X
  obtain ⟨v, st₀, t, T', L, h0, X', hL, e1, e2, ⟨⟨hv, hP1⟩, hz, hk⟩, stp⟩ := hrun T hT X
  obtain rfl : v = rv := by cases hv; rfl
  rw [h0] at hz hk
  have hA : ∀ q, gA G H.size q → gA G s.heap.size q := gA_sub hS.1
  subst hst2
  obtain ⟨t2, a1, b1⟩ := kk T'.heap (locs ++ L) lsA (by rw [e1]; exact hP1)
    ⟨Nat.le_trans hS.1 (by rw [e1]; exact hz), fun q h1 h2 => by rw [e1, hk q (Nat.lt_of_lt_of_le h1 hS.1) (fun z => h2 (hA q z))]; exact hS.2.1 q h1 h2, fun q hq => by
      rcases List.mem_append.mp hq with h | h
      · exact hS.2.2 q h
      · exact hA _ (hL q h)⟩ hl T' rfl X'
  exact ⟨t2, stp t2 a1, b1⟩
theorem pcm_at {s : State} {H : Heap} {locs : List Loc} (hP : va_P (gD G) vwCl (wsM G M) H) (hS : va_S (gA G s.heap.size) s.heap H locs) (hK : va_K (gD G) vwCl (gT G) s) (hSK : SK G s.heap.size s s.heap) (av : List Value) : ∀ U : State, U.heap = H → s.WarmedH U.vm → va_Pc av (Pcm G M H.size) av.toArray U := by
  intro U hU hW
  refine ⟨rfl, by rw [hU], by rw [hU]; exact hP, va_K.moved hW.alike hK, ?_⟩
  rw [hU]
  exact SK.warm hW (SK.narrow hS.1 (hSK.kept hS.2.1))
theorem Rb.callV (h : Rb G cc own nL F Lo w) {a ci : Nat} (hc : Ct G y b mL ret F' Lo' (.ref a :: As) M rv M') (hm : lkM y b mL ret n) (hi : Cond.instanceMethod y ∈ gw ∧ Cond.selects y.cls y y ∈ gw) (hl : Cond.methodLink own idx y ∈ gw) (ha : hs G a (0, ci)) (hcl : ∃ T N, vwCl[ci]? = some (y.cls, T, N)) (hn : As.length = n) (hst : st = As.reverse ++ .ref a :: rest) (hr : (rest.map fun v => v.category).sum ≤ 8) (hF : F' + 1 ≤ F ∧ 8 + (mL + 11) + Lo' ≤ Lo) (d : decode cc pc = .ok (.invokevirtual idx, 3)) (hst2 : rv.toList ++ rest = st2) (kk : w M' (pc + 3) ls st2) : w M pc ls st := by
  obtain ⟨hG, p, e, R, s, m, args, below, meth, c, kc, ks, Q, ⟨hx, hb, hml, hown, hts, hK, hSK, hFR, hLR, hkc, hks⟩, rfl⟩ := h
  intro H locs lsA hP hS hl'
  obtain ⟨T, N, hcl⟩ := hcl
  obtain ⟨q0, hq⟩ := wsM_get (M := M) ha.1
  have hq' : (wsM G M)[q0]? = some (a, .inr (ci, flds M a ci)) := by rw [hq]; simp [cellM, ha.2]
  refine wx_behind hS hl' hst2 kk (va_runV (As := As) (rest := rest) ⟨hx, hb, hml, hown, hts⟩ (hc H.size) ⟨callB_of n hts (good_gw hm.1) rfl rfl rfl (hts _ hm.2.1) (hts _ hl) hm.2.2 ⟨Nat.le_trans hF.1 hFR, Nat.le_trans hF.2 hLR⟩, hts _ hi.1, hts _ hi.2⟩ ⟨Pcm.blind, va_recv hK hP hcl hq', pcm_at hP hS hK hSK (.ref a :: As)⟩ rfl hn hl'.1 hst (lv_room hr) d ⟨hkc, hks⟩)
theorem Rb.callS (h : Rb G cc own nL F Lo w) (hc : Ct G y b mL ret F' Lo' As M rv M') (hm : lkM y b mL ret n) (hi : Cond.static y ∈ gw) (hl : Cond.methodLink own idx y ∈ gw) (hn : As.length = n) (hst : st = As.reverse ++ rest) (hr : (rest.map fun v => v.category).sum ≤ 8) (hF : F' + 1 ≤ F ∧ 8 + (mL + 11) + Lo' ≤ Lo) (d : decode cc pc = .ok (.invokestatic idx, 3)) (hst2 : rv.toList ++ rest = st2) (kk : w M' (pc + 3) ls st2) : w M pc ls st := by
  obtain ⟨hG, p, e, R, s, m, args, below, meth, c, kc, ks, Q, ⟨hx, hb, hml, hown, hts, hK, hSK, hFR, hLR, hkc, hks⟩, rfl⟩ := h
  intro H locs lsA hP hS hl'
  refine wx_behind hS hl' hst2 kk (va_runS (As := As) (rest := rest) ⟨hx, hb, hml, hown, hts⟩ (hc H.size) ⟨callB_of n hts (good_gw hm.1) rfl rfl rfl (hts _ hm.2.1) (hts _ hl) hm.2.2 ⟨Nat.le_trans hF.1 hFR, Nat.le_trans hF.2 hLR⟩, hts _ hi⟩ ⟨Pcm.blind, pcm_at hP hS hK hSK As⟩ rfl hn hl'.1 hst (lv_room hr) d ⟨hkc, hks⟩)
theorem Rb.callSN (h : Rb G cc own nL F Lo w) {host : String} (hc : Ct G y b mL ret F' Lo' As M rv M') (hm : lkM y b mL ret n) (hi : Cond.static y ∈ gw) (j : Nat) (hl : nestT[j]? = some (own, idx, y, host)) (hn : As.length = n) (hst : st = As.reverse ++ rest) (hr : (rest.map fun v => v.category).sum ≤ 8) (hF : F' + 1 ≤ F ∧ 8 + (mL + 11) + Lo' ≤ Lo) (d : decode cc pc = .ok (.invokestatic idx, 3)) (hst2 : rv.toList ++ rest = st2) (kk : w M' (pc + 3) ls st2) : w M pc ls st := by
  obtain ⟨hG, p, e, R, s, m, args, below, meth, c, kc, ks, Q, ⟨hx, hb, hml, hown, hts, hK, hSK, hFR, hLR, hkc, hks⟩, rfl⟩ := h
  intro H locs lsA hP hS hl'
  refine wx_behind hS hl' hst2 kk (va_runSN (As := As) (rest := rest) ⟨hx, hb, hml, hown, hts⟩ (hc H.size) ⟨va_cnB n hts (good_gw hm.1) rfl rfl rfl (hSK.2.2.2.2.1 (own, idx, y, host) (List.mem_of_getElem? hl)) (hts _ hm.2.1) hm.2.2 ⟨Nat.le_trans hF.1 hFR, Nat.le_trans hF.2 hLR⟩, hts _ hi, trivial⟩ ⟨Pcm.blind, pcm_at hP hS hK hSK As⟩ rfl hn hl'.1 hst (lv_room hr) d ⟨hkc, hks⟩)
end CALLS
theorem Met.ofWF {l : Launch} {y : MethodName} {ws ws' : List Cond} {rm : Room} {Pc : Array Value → State → Prop} {Qc : Array Value → State → Outcome → State → Prop} {mc ms : Nat} {free : Addr → Prop} {cc : ByteArray} {maxL : Nat} {ret : Option FieldType}
    (hy : plainFor y = true) (hw : ws = Cond.code y cc maxL ret :: ws')
    (body : ∀ p e s m args below meth c s₁, BodyLoose p l y (headSpec ws rm) cc maxL ret e s m args below meth c s₁ → c.maxLocals = maxL → Pc args s →
      W p l e (headSpec ws rm).room s m args below meth c s.heap [] 0 0 (MQ below Qc args s mc ms free) (entryFrame m args maxL)) : Met l y ws rm Pc Qc mc ms free := by
  refine MetFree.of_bodySF (code := cc) (maxLocals := maxL) (ret := ret) hy ?_ ?_
  · intro args s m h hn
    obtain ⟨meth, c, h1, h2, h3, h4, h5, h6, -, -⟩ := Cond.code_spec hn (atoms_spec (ws := ws) h _ (by rw [hw]; exact List.mem_cons_self))
    exact ⟨meth, c, h1, h2, h3, h4, h5, h6⟩
  · intro p e s m args below meth c s₁ B hml hP _
    have hh0 : s₁.heap = s.heap := by rw [B.state]; rfl
    obtain ⟨t, a1, o, b1, b2, b3⟩ := body p e s m args below meth c s₁ B hml hP s₁ hh0 (Stand.of_body B)
    exact ⟨t, o, a1, b1, b2, ⟨b3.1, b3.2⟩⟩
section CTOF
variable {G : Ctx} {y : MethodName} {b : ByteArray} {mL F Lo : Nat} {av : List Value} {M M' : Mem}
theorem ct_gen {ret : Option FieldType} {rv : Option Value} (hW : WFG G) (hy : plainFor y = true) (hlen : (lg_sl av).length ≤ mL)
    (body : ∀ w, Rb G b y.cls mL F Lo w → (∀ (pc : Nat) (ls : List (Nat × Value)) (st : List Value), (∀ (p : Program) (e : Env) (R : Room) (s : State) (m : MethodId) (args : Array Value) (below : List Frame) (meth : Method) (c : Code) (H : Heap) (locs : List Loc) (lsA : Array Slot), p.tables.exec = Jvm.exec → c.code = b → meth.sig.returnType = ret → meth.locks = false → (∀ q ∈ locs, gA G s.heap.size q.base) → (∀ t : State, t.heap = H → s.WarmedH t.vm → QcM G rv M' s.heap.size args s (.returned rv) t) → W p (gl G) e R s m args below meth c H locs 0 0 (MQ below (QcM G rv M' s.heap.size) args s 0 0 (gA G s.heap.size)) (F0 m pc lsA st)) → w M' pc ls st) → w M 0 (lv_args 0 av) []) : Ct G y b mL ret F Lo av M rv M' := by
  intro sz
  refine Met.ofWF (cc := b) (maxL := mL) (ret := ret) hy rfl ?_
  intro p e s m args below meth c s₁ B hml hv
  obtain ⟨rfl, hsz, hP, hK, hSK⟩ := hv
  subst hsz
  have hts := atoms_spec (ws := wsy y b mL ret) B.pre
  rw [lg_entry_eq]
  refine body (WX G p e (headSpec (wsy y b mL ret) (rmv F Lo 0 0)).room s m av.toArray below meth c mL 0 0 _) ⟨hW, p, e, _, s, m, av.toArray, below, meth, c, 0, 0, _, ⟨B.exec, B.bytes, hml, findClass_of_methodNamed B.named, fun w hw => hts w (List.mem_cons_of_mem _ hw), hK, hSK, Nat.le_refl _, Nat.le_refl _, Nat.le_refl _, Nat.le_refl _⟩, rfl⟩ ?_ s.heap [] _ hP va_S.rf (lv_entry av hlen)
  intro pc ls st hret H locs lsA hP1 hS1 hl1
  exact hret p e _ s m av.toArray below meth c H locs lsA B.exec B.bytes B.returns B.notSynchronized hS1.2.2 (fun t ht hW => ⟨⟨rfl, by rw [ht]; exact hP1⟩, hS1.F ht⟩)
theorem ct_i {ty : FieldType} {r : Int32} (hW : WFG G) (hy : plainFor y = true) (hlen : (lg_sl av).length ≤ mL)
    (body : ∀ w, Rb G b y.cls mL F Lo w → (∀ (pc : Nat) (ls : List (Nat × Value)), narrow ty (.int r) = .int r → decode b pc = .ok (.ireturn, 1) → w M' pc ls [.int r]) → w M 0 (lv_args 0 av) []) : Ct G y b mL (some ty) F Lo av M (some (.int r)) M' := by
  refine ct_gen hW hy hlen fun w h hr => body w h fun pc ls hn d => hr pc ls _ ?_
  intro p e R s m args below meth c H locs lsA hx hb hret hlk hf hq
  exact W.zret hx hb hret hn hq hf d hlk
theorem ct_v (hW : WFG G) (hy : plainFor y = true) (hlen : (lg_sl av).length ≤ mL)
    (body : ∀ w, Rb G b y.cls mL F Lo w → (∀ (pc : Nat) (ls : List (Nat × Value)), decode b pc = .ok (.return_, 1) → w M' pc ls []) → w M 0 (lv_args 0 av) []) : Ct G y b mL none F Lo av M none M' := by
  refine ct_gen hW hy hlen fun w h hr => body w h fun pc ls d => hr pc ls _ ?_
  intro p e R s m args below meth c H locs lsA hx hb hret hlk hf hq
  exact W.vret hx hb hret hq hf d hlk
theorem ct_a {C : String} {r : Nat} (hW : WFG G) (hy : plainFor y = true) (hlen : (lg_sl av).length ≤ mL)
    (body : ∀ w, Rb G b y.cls mL F Lo w → (∀ (pc : Nat) (ls : List (Nat × Value)), decode b pc = .ok (.areturn, 1) → w M' pc ls [.ref r]) → w M 0 (lv_args 0 av) []) : Ct G y b mL (some (.object C)) F Lo av M (some (.ref r)) M' := by
  refine ct_gen hW hy hlen fun w h hr => body w h fun pc ls d => hr pc ls _ ?_
  intro p e R s m args below meth c H locs lsA hx hb hret hlk hf hq
  exact W.aret hx hb hret (Or.inl ⟨_, rfl⟩) (Or.inr ⟨_, rfl⟩) hq hf d hlk
end CTOF
section EV
def E {τ : Type} (Φ : τ → Prop) (o : Option τ) (X : Prop) : Prop := ∀ t, o = some t → Φ t → X
def nm {α β : Type} (v : α) (k : α → β) : β := k v
def gdp (c : Prop) [Decidable c] {τ : Type} (o : Option τ) : Option τ := if c then o else none
def gdi (i : Int32) (n : Nat) {τ : Type} (o : Option τ) : Option τ := if 0 ≤ i.toInt ∧ i.toInt < (n : Int) then o else none
def bd {α τ : Type} (o : Option (α × Mem)) (k : α → Mem → Option τ) : Option τ := match o with
  | none => none
  | some (a, M) => k a M
variable {τ : Type} {Φ : τ → Prop} {X X' X1 X2 : Prop} {o o1 o2 : Option τ}
theorem E.m (hx : X' → X) (k : E Φ o X') : E Φ o X := fun t h p => hx (k t h p)
theorem E.br {c : Prop} [Decidable c] (hx : (c → X1) → (¬ c → X2) → X) (k1 : E Φ o1 X1) (k2 : E Φ o2 X2) : E Φ (if c then o1 else o2) X := fun t h p => by
  by_cases hc : c
  · rw [if_pos hc] at h
    exact hx (fun _ => k1 t h p) (fun n => absurd hc n)
  · rw [if_neg hc] at h
    exact hx (fun n => absurd n hc) (fun _ => k2 t h p)
theorem E.gd {c : Prop} [Decidable c] (hx : c → X' → X) (k : c → E Φ o X') : E Φ (gdp c o) X := fun t h p => by
  unfold gdp at h
  by_cases hc : c
  · rw [if_pos hc] at h
    exact hx hc (k hc t h p)
  · rw [if_neg hc] at h
    cases h
theorem E.gi {i : Int32} {n : Nat} (hx : 0 ≤ i.toInt ∧ i.toInt < (n : Int) → X' → X) (k : E Φ o X') : E Φ (gdi i n o) X := fun t h p => by
  unfold gdi at h
  by_cases hc : 0 ≤ i.toInt ∧ i.toInt < (n : Int)
  · rw [if_pos hc] at h
    exact hx hc (k t h p)
  · rw [if_neg hc] at h
    cases h
theorem E.bnd {α : Type} {f : Option (α × Mem)} {K : α → Mem → Option τ} (Y : α → Mem → Prop) (hx : ∀ r M', f = some (r, M') → Y r M' → X) (k : ∀ r M', E Φ (K r M') (Y r M')) : E Φ (bd f K) X := fun t h p => by
  unfold bd at h
  cases hf : f with
  | none => rw [hf] at h; cases h
  | some q =>
    obtain ⟨r, M'⟩ := q
    rw [hf] at h
    exact hx r M' hf (k r M' t h p)
theorem E.nmM {w : Mem → Nat → List (Nat × Value) → List Value → Prop} {m : Mem} {K : Mem → Option τ} {pc : Nat} {ls : List (Nat × Value)} {st : List Value} (k : ∀ M1, E Φ (K M1) (w M1 pc ls st)) : E Φ (nm m K) (w m pc ls st) := k m
theorem E.nmL {w : Mem → Nat → List (Nat × Value) → List Value → Prop} {M : Mem} {v : Int32} {i : Nat} {K : Int32 → Option τ} {pc : Nat} {ls : List (Nat × Value)} {st : List Value} (k : ∀ x, E Φ (K x) (w M pc ((i, .int x) :: ls) st)) : E Φ (nm v K) (w M pc ((i, .int v) :: ls) st) := k v
theorem E.nmJ {w : Mem → Nat → List (Nat × Value) → List Value → Prop} {M : Mem} {v : Int64} {i : Nat} {K : Int64 → Option τ} {pc : Nat} {ls : List (Nat × Value)} {st : List Value} (k : ∀ x, E Φ (K x) (w M pc ((i, .long x) :: ls) st)) : E Φ (nm v K) (w M pc ((i, .long v) :: ls) st) := k v
theorem E.nmR {w : Mem → Nat → List (Nat × Value) → List Value → Prop} {M : Mem} {v : Nat} {i : Nat} {K : Nat → Option τ} {pc : Nat} {ls : List (Nat × Value)} {st : List Value} (k : ∀ x, v = x → E Φ (K x) (w M pc ((i, .ref x) :: ls) st)) : E Φ (nm v K) (w M pc ((i, .ref v) :: ls) st) := k v rfl
theorem E.nmS {w : Mem → Nat → List (Nat × Value) → List Value → Prop} {M : Mem} {v : Int32} {K : Int32 → Option τ} {pc : Nat} {ls : List (Nat × Value)} {st : List Value} (k : ∀ x, E Φ (K x) (w M pc ls (.int x :: st))) : E Φ (nm v K) (w M pc ls (.int v :: st)) := k v
theorem E.some {t : τ} (h : Φ t → X) : E Φ (Option.some t) X := fun t' e p => by cases e; exact h p
theorem E.none : E Φ (Option.none : Option τ) X := fun t' e p => by cases e

def jn0 {τ : Type} (K : Unit → Option τ) (b : (Unit → Option τ) → Option τ) : Option τ := b K
theorem E.join0 {K : Unit → Option τ} {b : (Unit → Option τ) → Option τ} (Q : Unit → Prop) (hk : ∀ _u, E Φ (K _u) (Q _u)) (hb : ∀ J, (∀ _u, E Φ (J _u) (Q _u)) → E Φ (b J) X) : E Φ (jn0 K b) X := hb K hk
def jn1 {α0 : Type} {τ : Type} (K : α0 → Option τ) (b : (α0 → Option τ) → Option τ) : Option τ := b K
theorem E.join1 {α0 : Type} {K : α0 → Option τ} {b : (α0 → Option τ) → Option τ} (Q : α0 → Prop) (hk : ∀ x0, E Φ (K x0) (Q x0)) (hb : ∀ J, (∀ x0, E Φ (J x0) (Q x0)) → E Φ (b J) X) : E Φ (jn1 K b) X := hb K hk
def jn2 {α0 α1 : Type} {τ : Type} (K : α0 → α1 → Option τ) (b : (α0 → α1 → Option τ) → Option τ) : Option τ := b K
theorem E.join2 {α0 α1 : Type} {K : α0 → α1 → Option τ} {b : (α0 → α1 → Option τ) → Option τ} (Q : α0 → α1 → Prop) (hk : ∀ x0 x1, E Φ (K x0 x1) (Q x0 x1)) (hb : ∀ J, (∀ x0 x1, E Φ (J x0 x1) (Q x0 x1)) → E Φ (b J) X) : E Φ (jn2 K b) X := hb K hk
def jn3 {α0 α1 α2 : Type} {τ : Type} (K : α0 → α1 → α2 → Option τ) (b : (α0 → α1 → α2 → Option τ) → Option τ) : Option τ := b K
theorem E.join3 {α0 α1 α2 : Type} {K : α0 → α1 → α2 → Option τ} {b : (α0 → α1 → α2 → Option τ) → Option τ} (Q : α0 → α1 → α2 → Prop) (hk : ∀ x0 x1 x2, E Φ (K x0 x1 x2) (Q x0 x1 x2)) (hb : ∀ J, (∀ x0 x1 x2, E Φ (J x0 x1 x2) (Q x0 x1 x2)) → E Φ (b J) X) : E Φ (jn3 K b) X := hb K hk
def jn4 {α0 α1 α2 α3 : Type} {τ : Type} (K : α0 → α1 → α2 → α3 → Option τ) (b : (α0 → α1 → α2 → α3 → Option τ) → Option τ) : Option τ := b K
theorem E.join4 {α0 α1 α2 α3 : Type} {K : α0 → α1 → α2 → α3 → Option τ} {b : (α0 → α1 → α2 → α3 → Option τ) → Option τ} (Q : α0 → α1 → α2 → α3 → Prop) (hk : ∀ x0 x1 x2 x3, E Φ (K x0 x1 x2 x3) (Q x0 x1 x2 x3)) (hb : ∀ J, (∀ x0 x1 x2 x3, E Φ (J x0 x1 x2 x3) (Q x0 x1 x2 x3)) → E Φ (b J) X) : E Φ (jn4 K b) X := hb K hk
def jn5 {α0 α1 α2 α3 α4 : Type} {τ : Type} (K : α0 → α1 → α2 → α3 → α4 → Option τ) (b : (α0 → α1 → α2 → α3 → α4 → Option τ) → Option τ) : Option τ := b K
theorem E.join5 {α0 α1 α2 α3 α4 : Type} {K : α0 → α1 → α2 → α3 → α4 → Option τ} {b : (α0 → α1 → α2 → α3 → α4 → Option τ) → Option τ} (Q : α0 → α1 → α2 → α3 → α4 → Prop) (hk : ∀ x0 x1 x2 x3 x4, E Φ (K x0 x1 x2 x3 x4) (Q x0 x1 x2 x3 x4)) (hb : ∀ J, (∀ x0 x1 x2 x3 x4, E Φ (J x0 x1 x2 x3 x4) (Q x0 x1 x2 x3 x4)) → E Φ (b J) X) : E Φ (jn5 K b) X := hb K hk
def jn6 {α0 α1 α2 α3 α4 α5 : Type} {τ : Type} (K : α0 → α1 → α2 → α3 → α4 → α5 → Option τ) (b : (α0 → α1 → α2 → α3 → α4 → α5 → Option τ) → Option τ) : Option τ := b K
theorem E.join6 {α0 α1 α2 α3 α4 α5 : Type} {K : α0 → α1 → α2 → α3 → α4 → α5 → Option τ} {b : (α0 → α1 → α2 → α3 → α4 → α5 → Option τ) → Option τ} (Q : α0 → α1 → α2 → α3 → α4 → α5 → Prop) (hk : ∀ x0 x1 x2 x3 x4 x5, E Φ (K x0 x1 x2 x3 x4 x5) (Q x0 x1 x2 x3 x4 x5)) (hb : ∀ J, (∀ x0 x1 x2 x3 x4 x5, E Φ (J x0 x1 x2 x3 x4 x5) (Q x0 x1 x2 x3 x4 x5)) → E Φ (b J) X) : E Φ (jn6 K b) X := hb K hk
def jn7 {α0 α1 α2 α3 α4 α5 α6 : Type} {τ : Type} (K : α0 → α1 → α2 → α3 → α4 → α5 → α6 → Option τ) (b : (α0 → α1 → α2 → α3 → α4 → α5 → α6 → Option τ) → Option τ) : Option τ := b K
theorem E.join7 {α0 α1 α2 α3 α4 α5 α6 : Type} {K : α0 → α1 → α2 → α3 → α4 → α5 → α6 → Option τ} {b : (α0 → α1 → α2 → α3 → α4 → α5 → α6 → Option τ) → Option τ} (Q : α0 → α1 → α2 → α3 → α4 → α5 → α6 → Prop) (hk : ∀ x0 x1 x2 x3 x4 x5 x6, E Φ (K x0 x1 x2 x3 x4 x5 x6) (Q x0 x1 x2 x3 x4 x5 x6)) (hb : ∀ J, (∀ x0 x1 x2 x3 x4 x5 x6, E Φ (J x0 x1 x2 x3 x4 x5 x6) (Q x0 x1 x2 x3 x4 x5 x6)) → E Φ (b J) X) : E Φ (jn7 K b) X := hb K hk
def jn8 {α0 α1 α2 α3 α4 α5 α6 α7 : Type} {τ : Type} (K : α0 → α1 → α2 → α3 → α4 → α5 → α6 → α7 → Option τ) (b : (α0 → α1 → α2 → α3 → α4 → α5 → α6 → α7 → Option τ) → Option τ) : Option τ := b K
theorem E.join8 {α0 α1 α2 α3 α4 α5 α6 α7 : Type} {K : α0 → α1 → α2 → α3 → α4 → α5 → α6 → α7 → Option τ} {b : (α0 → α1 → α2 → α3 → α4 → α5 → α6 → α7 → Option τ) → Option τ} (Q : α0 → α1 → α2 → α3 → α4 → α5 → α6 → α7 → Prop) (hk : ∀ x0 x1 x2 x3 x4 x5 x6 x7, E Φ (K x0 x1 x2 x3 x4 x5 x6 x7) (Q x0 x1 x2 x3 x4 x5 x6 x7)) (hb : ∀ J, (∀ x0 x1 x2 x3 x4 x5 x6 x7, E Φ (J x0 x1 x2 x3 x4 x5 x6 x7) (Q x0 x1 x2 x3 x4 x5 x6 x7)) → E Φ (b J) X) : E Φ (jn8 K b) X := hb K hk
def lop1 {α0 τ : Type} : Nat → (α0 → Option ((α0) ⊕ τ)) → α0 → Option τ
  | 0, _, _ => none
  | n + 1, b, x0 => match b x0 with
    | none => none
    | some (.inr t) => some t
    | some (.inl (x0)) => lop1 n b x0
theorem E.loop1 {α0 : Type} {b : α0 → Option ((α0) ⊕ τ)} (Q : α0 → Prop) (hb : ∀ x0, E (fun r : (α0) ⊕ τ => match r with
    | .inl (x0) => Q x0
    | .inr t => Φ t) (b x0) (Q x0)) : ∀ (n : Nat) x0, E Φ (lop1 n b x0) (Q x0) := by
  intro n
  induction n with
  | zero => intro x0 t h p; cases h
  | succ n ih =>
    intro x0 t h p
    simp only [lop1] at h
    cases hr : b x0 with
    | none => rw [hr] at h; cases h
    | some r =>
      rw [hr] at h
      cases r with
      | inl q =>
        have y0 := q
        exact hb x0 _ hr (ih q t h p)
      | inr t' =>
        cases h
        exact hb x0 _ hr p
def lop2 {α0 α1 τ : Type} : Nat → (α0 → α1 → Option ((α0 × α1) ⊕ τ)) → α0 → α1 → Option τ
  | 0, _, _, _ => none
  | n + 1, b, x0, x1 => match b x0 x1 with
    | none => none
    | some (.inr t) => some t
    | some (.inl (x0, x1)) => lop2 n b x0 x1
theorem E.loop2 {α0 α1 : Type} {b : α0 → α1 → Option ((α0 × α1) ⊕ τ)} (Q : α0 → α1 → Prop) (hb : ∀ x0 x1, E (fun r : (α0 × α1) ⊕ τ => match r with
    | .inl (x0, x1) => Q x0 x1
    | .inr t => Φ t) (b x0 x1) (Q x0 x1)) : ∀ (n : Nat) x0 x1, E Φ (lop2 n b x0 x1) (Q x0 x1) := by
  intro n
  induction n with
  | zero => intro x0 x1 t h p; cases h
  | succ n ih =>
    intro x0 x1 t h p
    simp only [lop2] at h
    cases hr : b x0 x1 with
    | none => rw [hr] at h; cases h
    | some r =>
      rw [hr] at h
      cases r with
      | inl q =>
        obtain ⟨y0, y1⟩ := q
        exact hb x0 x1 _ hr (ih y0 y1 t h p)
      | inr t' =>
        cases h
        exact hb x0 x1 _ hr p
def lop3 {α0 α1 α2 τ : Type} : Nat → (α0 → α1 → α2 → Option ((α0 × α1 × α2) ⊕ τ)) → α0 → α1 → α2 → Option τ
  | 0, _, _, _, _ => none
  | n + 1, b, x0, x1, x2 => match b x0 x1 x2 with
    | none => none
    | some (.inr t) => some t
    | some (.inl (x0, x1, x2)) => lop3 n b x0 x1 x2
theorem E.loop3 {α0 α1 α2 : Type} {b : α0 → α1 → α2 → Option ((α0 × α1 × α2) ⊕ τ)} (Q : α0 → α1 → α2 → Prop) (hb : ∀ x0 x1 x2, E (fun r : (α0 × α1 × α2) ⊕ τ => match r with
    | .inl (x0, x1, x2) => Q x0 x1 x2
    | .inr t => Φ t) (b x0 x1 x2) (Q x0 x1 x2)) : ∀ (n : Nat) x0 x1 x2, E Φ (lop3 n b x0 x1 x2) (Q x0 x1 x2) := by
  intro n
  induction n with
  | zero => intro x0 x1 x2 t h p; cases h
  | succ n ih =>
    intro x0 x1 x2 t h p
    simp only [lop3] at h
    cases hr : b x0 x1 x2 with
    | none => rw [hr] at h; cases h
    | some r =>
      rw [hr] at h
      cases r with
      | inl q =>
        obtain ⟨y0, y1, y2⟩ := q
        exact hb x0 x1 x2 _ hr (ih y0 y1 y2 t h p)
      | inr t' =>
        cases h
        exact hb x0 x1 x2 _ hr p
def lop4 {α0 α1 α2 α3 τ : Type} : Nat → (α0 → α1 → α2 → α3 → Option ((α0 × α1 × α2 × α3) ⊕ τ)) → α0 → α1 → α2 → α3 → Option τ
  | 0, _, _, _, _, _ => none
  | n + 1, b, x0, x1, x2, x3 => match b x0 x1 x2 x3 with
    | none => none
    | some (.inr t) => some t
    | some (.inl (x0, x1, x2, x3)) => lop4 n b x0 x1 x2 x3
theorem E.loop4 {α0 α1 α2 α3 : Type} {b : α0 → α1 → α2 → α3 → Option ((α0 × α1 × α2 × α3) ⊕ τ)} (Q : α0 → α1 → α2 → α3 → Prop) (hb : ∀ x0 x1 x2 x3, E (fun r : (α0 × α1 × α2 × α3) ⊕ τ => match r with
    | .inl (x0, x1, x2, x3) => Q x0 x1 x2 x3
    | .inr t => Φ t) (b x0 x1 x2 x3) (Q x0 x1 x2 x3)) : ∀ (n : Nat) x0 x1 x2 x3, E Φ (lop4 n b x0 x1 x2 x3) (Q x0 x1 x2 x3) := by
  intro n
  induction n with
  | zero => intro x0 x1 x2 x3 t h p; cases h
  | succ n ih =>
    intro x0 x1 x2 x3 t h p
    simp only [lop4] at h
    cases hr : b x0 x1 x2 x3 with
    | none => rw [hr] at h; cases h
    | some r =>
      rw [hr] at h
      cases r with
      | inl q =>
        obtain ⟨y0, y1, y2, y3⟩ := q
        exact hb x0 x1 x2 x3 _ hr (ih y0 y1 y2 y3 t h p)
      | inr t' =>
        cases h
        exact hb x0 x1 x2 x3 _ hr p
def lop5 {α0 α1 α2 α3 α4 τ : Type} : Nat → (α0 → α1 → α2 → α3 → α4 → Option ((α0 × α1 × α2 × α3 × α4) ⊕ τ)) → α0 → α1 → α2 → α3 → α4 → Option τ
  | 0, _, _, _, _, _, _ => none
  | n + 1, b, x0, x1, x2, x3, x4 => match b x0 x1 x2 x3 x4 with
    | none => none
    | some (.inr t) => some t
    | some (.inl (x0, x1, x2, x3, x4)) => lop5 n b x0 x1 x2 x3 x4
theorem E.loop5 {α0 α1 α2 α3 α4 : Type} {b : α0 → α1 → α2 → α3 → α4 → Option ((α0 × α1 × α2 × α3 × α4) ⊕ τ)} (Q : α0 → α1 → α2 → α3 → α4 → Prop) (hb : ∀ x0 x1 x2 x3 x4, E (fun r : (α0 × α1 × α2 × α3 × α4) ⊕ τ => match r with
    | .inl (x0, x1, x2, x3, x4) => Q x0 x1 x2 x3 x4
    | .inr t => Φ t) (b x0 x1 x2 x3 x4) (Q x0 x1 x2 x3 x4)) : ∀ (n : Nat) x0 x1 x2 x3 x4, E Φ (lop5 n b x0 x1 x2 x3 x4) (Q x0 x1 x2 x3 x4) := by
  intro n
  induction n with
  | zero => intro x0 x1 x2 x3 x4 t h p; cases h
  | succ n ih =>
    intro x0 x1 x2 x3 x4 t h p
    simp only [lop5] at h
    cases hr : b x0 x1 x2 x3 x4 with
    | none => rw [hr] at h; cases h
    | some r =>
      rw [hr] at h
      cases r with
      | inl q =>
        obtain ⟨y0, y1, y2, y3, y4⟩ := q
        exact hb x0 x1 x2 x3 x4 _ hr (ih y0 y1 y2 y3 y4 t h p)
      | inr t' =>
        cases h
        exact hb x0 x1 x2 x3 x4 _ hr p
def lop6 {α0 α1 α2 α3 α4 α5 τ : Type} : Nat → (α0 → α1 → α2 → α3 → α4 → α5 → Option ((α0 × α1 × α2 × α3 × α4 × α5) ⊕ τ)) → α0 → α1 → α2 → α3 → α4 → α5 → Option τ
  | 0, _, _, _, _, _, _, _ => none
  | n + 1, b, x0, x1, x2, x3, x4, x5 => match b x0 x1 x2 x3 x4 x5 with
    | none => none
    | some (.inr t) => some t
    | some (.inl (x0, x1, x2, x3, x4, x5)) => lop6 n b x0 x1 x2 x3 x4 x5
theorem E.loop6 {α0 α1 α2 α3 α4 α5 : Type} {b : α0 → α1 → α2 → α3 → α4 → α5 → Option ((α0 × α1 × α2 × α3 × α4 × α5) ⊕ τ)} (Q : α0 → α1 → α2 → α3 → α4 → α5 → Prop) (hb : ∀ x0 x1 x2 x3 x4 x5, E (fun r : (α0 × α1 × α2 × α3 × α4 × α5) ⊕ τ => match r with
    | .inl (x0, x1, x2, x3, x4, x5) => Q x0 x1 x2 x3 x4 x5
    | .inr t => Φ t) (b x0 x1 x2 x3 x4 x5) (Q x0 x1 x2 x3 x4 x5)) : ∀ (n : Nat) x0 x1 x2 x3 x4 x5, E Φ (lop6 n b x0 x1 x2 x3 x4 x5) (Q x0 x1 x2 x3 x4 x5) := by
  intro n
  induction n with
  | zero => intro x0 x1 x2 x3 x4 x5 t h p; cases h
  | succ n ih =>
    intro x0 x1 x2 x3 x4 x5 t h p
    simp only [lop6] at h
    cases hr : b x0 x1 x2 x3 x4 x5 with
    | none => rw [hr] at h; cases h
    | some r =>
      rw [hr] at h
      cases r with
      | inl q =>
        obtain ⟨y0, y1, y2, y3, y4, y5⟩ := q
        exact hb x0 x1 x2 x3 x4 x5 _ hr (ih y0 y1 y2 y3 y4 y5 t h p)
      | inr t' =>
        cases h
        exact hb x0 x1 x2 x3 x4 x5 _ hr p
def lop7 {α0 α1 α2 α3 α4 α5 α6 τ : Type} : Nat → (α0 → α1 → α2 → α3 → α4 → α5 → α6 → Option ((α0 × α1 × α2 × α3 × α4 × α5 × α6) ⊕ τ)) → α0 → α1 → α2 → α3 → α4 → α5 → α6 → Option τ
  | 0, _, _, _, _, _, _, _, _ => none
  | n + 1, b, x0, x1, x2, x3, x4, x5, x6 => match b x0 x1 x2 x3 x4 x5 x6 with
    | none => none
    | some (.inr t) => some t
    | some (.inl (x0, x1, x2, x3, x4, x5, x6)) => lop7 n b x0 x1 x2 x3 x4 x5 x6
theorem E.loop7 {α0 α1 α2 α3 α4 α5 α6 : Type} {b : α0 → α1 → α2 → α3 → α4 → α5 → α6 → Option ((α0 × α1 × α2 × α3 × α4 × α5 × α6) ⊕ τ)} (Q : α0 → α1 → α2 → α3 → α4 → α5 → α6 → Prop) (hb : ∀ x0 x1 x2 x3 x4 x5 x6, E (fun r : (α0 × α1 × α2 × α3 × α4 × α5 × α6) ⊕ τ => match r with
    | .inl (x0, x1, x2, x3, x4, x5, x6) => Q x0 x1 x2 x3 x4 x5 x6
    | .inr t => Φ t) (b x0 x1 x2 x3 x4 x5 x6) (Q x0 x1 x2 x3 x4 x5 x6)) : ∀ (n : Nat) x0 x1 x2 x3 x4 x5 x6, E Φ (lop7 n b x0 x1 x2 x3 x4 x5 x6) (Q x0 x1 x2 x3 x4 x5 x6) := by
  intro n
  induction n with
  | zero => intro x0 x1 x2 x3 x4 x5 x6 t h p; cases h
  | succ n ih =>
    intro x0 x1 x2 x3 x4 x5 x6 t h p
    simp only [lop7] at h
    cases hr : b x0 x1 x2 x3 x4 x5 x6 with
    | none => rw [hr] at h; cases h
    | some r =>
      rw [hr] at h
      cases r with
      | inl q =>
        obtain ⟨y0, y1, y2, y3, y4, y5, y6⟩ := q
        exact hb x0 x1 x2 x3 x4 x5 x6 _ hr (ih y0 y1 y2 y3 y4 y5 y6 t h p)
      | inr t' =>
        cases h
        exact hb x0 x1 x2 x3 x4 x5 x6 _ hr p
def lop8 {α0 α1 α2 α3 α4 α5 α6 α7 τ : Type} : Nat → (α0 → α1 → α2 → α3 → α4 → α5 → α6 → α7 → Option ((α0 × α1 × α2 × α3 × α4 × α5 × α6 × α7) ⊕ τ)) → α0 → α1 → α2 → α3 → α4 → α5 → α6 → α7 → Option τ
  | 0, _, _, _, _, _, _, _, _, _ => none
  | n + 1, b, x0, x1, x2, x3, x4, x5, x6, x7 => match b x0 x1 x2 x3 x4 x5 x6 x7 with
    | none => none
    | some (.inr t) => some t
    | some (.inl (x0, x1, x2, x3, x4, x5, x6, x7)) => lop8 n b x0 x1 x2 x3 x4 x5 x6 x7
theorem E.loop8 {α0 α1 α2 α3 α4 α5 α6 α7 : Type} {b : α0 → α1 → α2 → α3 → α4 → α5 → α6 → α7 → Option ((α0 × α1 × α2 × α3 × α4 × α5 × α6 × α7) ⊕ τ)} (Q : α0 → α1 → α2 → α3 → α4 → α5 → α6 → α7 → Prop) (hb : ∀ x0 x1 x2 x3 x4 x5 x6 x7, E (fun r : (α0 × α1 × α2 × α3 × α4 × α5 × α6 × α7) ⊕ τ => match r with
    | .inl (x0, x1, x2, x3, x4, x5, x6, x7) => Q x0 x1 x2 x3 x4 x5 x6 x7
    | .inr t => Φ t) (b x0 x1 x2 x3 x4 x5 x6 x7) (Q x0 x1 x2 x3 x4 x5 x6 x7)) : ∀ (n : Nat) x0 x1 x2 x3 x4 x5 x6 x7, E Φ (lop8 n b x0 x1 x2 x3 x4 x5 x6 x7) (Q x0 x1 x2 x3 x4 x5 x6 x7) := by
  intro n
  induction n with
  | zero => intro x0 x1 x2 x3 x4 x5 x6 x7 t h p; cases h
  | succ n ih =>
    intro x0 x1 x2 x3 x4 x5 x6 x7 t h p
    simp only [lop8] at h
    cases hr : b x0 x1 x2 x3 x4 x5 x6 x7 with
    | none => rw [hr] at h; cases h
    | some r =>
      rw [hr] at h
      cases r with
      | inl q =>
        obtain ⟨y0, y1, y2, y3, y4, y5, y6, y7⟩ := q
        exact hb x0 x1 x2 x3 x4 x5 x6 x7 _ hr (ih y0 y1 y2 y3 y4 y5 y6 y7 t h p)
      | inr t' =>
        cases h
        exact hb x0 x1 x2 x3 x4 x5 x6 x7 _ hr p
def lop9 {α0 α1 α2 α3 α4 α5 α6 α7 α8 τ : Type} : Nat → (α0 → α1 → α2 → α3 → α4 → α5 → α6 → α7 → α8 → Option ((α0 × α1 × α2 × α3 × α4 × α5 × α6 × α7 × α8) ⊕ τ)) → α0 → α1 → α2 → α3 → α4 → α5 → α6 → α7 → α8 → Option τ
  | 0, _, _, _, _, _, _, _, _, _, _ => none
  | n + 1, b, x0, x1, x2, x3, x4, x5, x6, x7, x8 => match b x0 x1 x2 x3 x4 x5 x6 x7 x8 with
    | none => none
    | some (.inr t) => some t
    | some (.inl (x0, x1, x2, x3, x4, x5, x6, x7, x8)) => lop9 n b x0 x1 x2 x3 x4 x5 x6 x7 x8
theorem E.loop9 {α0 α1 α2 α3 α4 α5 α6 α7 α8 : Type} {b : α0 → α1 → α2 → α3 → α4 → α5 → α6 → α7 → α8 → Option ((α0 × α1 × α2 × α3 × α4 × α5 × α6 × α7 × α8) ⊕ τ)} (Q : α0 → α1 → α2 → α3 → α4 → α5 → α6 → α7 → α8 → Prop) (hb : ∀ x0 x1 x2 x3 x4 x5 x6 x7 x8, E (fun r : (α0 × α1 × α2 × α3 × α4 × α5 × α6 × α7 × α8) ⊕ τ => match r with
    | .inl (x0, x1, x2, x3, x4, x5, x6, x7, x8) => Q x0 x1 x2 x3 x4 x5 x6 x7 x8
    | .inr t => Φ t) (b x0 x1 x2 x3 x4 x5 x6 x7 x8) (Q x0 x1 x2 x3 x4 x5 x6 x7 x8)) : ∀ (n : Nat) x0 x1 x2 x3 x4 x5 x6 x7 x8, E Φ (lop9 n b x0 x1 x2 x3 x4 x5 x6 x7 x8) (Q x0 x1 x2 x3 x4 x5 x6 x7 x8) := by
  intro n
  induction n with
  | zero => intro x0 x1 x2 x3 x4 x5 x6 x7 x8 t h p; cases h
  | succ n ih =>
    intro x0 x1 x2 x3 x4 x5 x6 x7 x8 t h p
    simp only [lop9] at h
    cases hr : b x0 x1 x2 x3 x4 x5 x6 x7 x8 with
    | none => rw [hr] at h; cases h
    | some r =>
      rw [hr] at h
      cases r with
      | inl q =>
        obtain ⟨y0, y1, y2, y3, y4, y5, y6, y7, y8⟩ := q
        exact hb x0 x1 x2 x3 x4 x5 x6 x7 x8 _ hr (ih y0 y1 y2 y3 y4 y5 y6 y7 y8 t h p)
      | inr t' =>
        cases h
        exact hb x0 x1 x2 x3 x4 x5 x6 x7 x8 _ hr p
end EV
