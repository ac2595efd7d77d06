def exL : List Cond := [.castable "java/lang/IllegalArgumentException" "java/lang/IllegalArgumentException", .castable "java/util/NoSuchElementException" "java/util/NoSuchElementException", .declares ⟨"java/lang/RuntimeException", "<init>", "(Ljava/lang/String;)V"⟩, .declares ⟨"java/lang/Exception", "<init>", "(Ljava/lang/String;)V"⟩, .declares ⟨"java/lang/Throwable", "<init>", "(Ljava/lang/String;)V"⟩]
def exN (k : Nat) : String := if k = 0 then "java/util/NoSuchElementException" else "java/lang/IllegalArgumentException"
def exNm : List String := ["java/lang/RuntimeException", "java/lang/Exception"]
/-! NoSuchElementException(String): its constructor hands on by entry 13 of its own pool. The throw is walked by the library's rows of Throwable's chain, the first link by its own bytes. -/
def thirteen : ByteArray := ⟨#[0x2a, 0x2b, 0xb7, 0x00, 0x0d, 0xb1]⟩
theorem th13_0 : decode thirteen 0 = .ok (.aload_n 0, 1) := by decide +kernel
theorem th13_1 : decode thirteen 1 = .ok (.aload_n 1, 1) := by decide +kernel
theorem th13_2 : decode thirteen 2 = .ok (.invokespecial 13, 3) := by decide +kernel
theorem th13_5 : decode thirteen 5 = .ok (.return_, 1) := by decide +kernel
def nsX : String := "java/util/NoSuchElementException"
def nsY : String := "java/lang/RuntimeException"
def nsR : List String := ["java/lang/Exception"]
def nsW (own : String) (ic : Nat) : List Cond :=
  Bundle.throwableAtoms ++ (Bundle.throwableSAtoms ++ (Bundle.passSAtoms nsX nsY 13 thirteen ++ (Bundle.chainSAtoms nsY nsR ++
  [.methodLink own ic (Bundle.initS nsX), .instantiable nsX 6, .castable nsX nsX, .selects nsX Bundle.tFill0 Bundle.tFill0, .selects nsX Bundle.tFill Bundle.tFill,
   .lays nsX Bundle.tN "cause" "Ljava/lang/Throwable;", .lays nsX Bundle.tN "stackTrace" Bundle.steD, .lays nsX Bundle.tN "suppressedExceptions" Bundle.listD, .lays nsX Bundle.tN "detailMessage" "Ljava/lang/String;",
   .isRef (.static Bundle.tN "UNASSIGNED_STACK" Bundle.steD), .isRef (.static Bundle.tN "SUPPRESSED_SENTINEL" Bundle.listD),
   .fieldLink Bundle.tN 198 Bundle.tN "backtrace" "Ljava/lang/Object;", .lays Bundle.tN Bundle.tN "backtrace" "Ljava/lang/Object;", .lays nsX Bundle.tN "backtrace" "Ljava/lang/Object;"])))
section NSE
variable {p : Program} {l : Launch} {e : Env} {R : Room} {s : State} {m : MethodId} {args : Array Value} {below : List Frame} {meth : Method} {c : Code} {U0 : State} {locs : List Loc} {cells slots : Nat}
set_option maxHeartbeats 2000000 in
theorem ns_ctorThrow (X : Stand p l e R s m args below meth c U0 locs cells slots) (hexec : p.tables.exec = Jvm.exec) (htr : e.platform.stackTraces = false) {own : String} {ic : Nat}
    (hown : s.vm.findClass own = some m.cls) (h : ∀ w ∈ nsW own ic, w.before args s = true) (hlocs : ∀ x ∈ locs, ∀ cell, s.heap[x.base]? = some cell → cell.vm.isStatics = false)
    {a : Addr} {cX : ClassId} {kX : Class} (hfoundX : s.vm.findClass nsX = some cX) (hkX : s.vm.classes[cX]? = some kX) (hcell : U0.heap[a]? = some (freshCell cX kX)) (hnew : s.heap.size ≤ a)
    {msg : Value} (hmsg : msg.isRef = true) {g : JFrame} (hg : g.method = m) (hsize : g.locals.size = c.maxLocals) (hlocked : g.locked = none) (hentered : g.entered = []) {rest : List Value} (hstack : g.stack = msg :: .ref a :: .ref a :: rest)
    (hd6 : decode c.code g.pc = .ok (.invokespecial ic, 3)) (hd9 : decode c.code (g.pc + 3) = .ok (.athrow, 1)) (hout : ∀ x ∈ c.exceptionTable.toList, covers x (g.pc + 3) = false)
    (hRf : 5 < R.frames) (hRl : 2 * g.monitorRoom + ((Value.ref a :: rest).map fun v => v.category).sum + 81 ≤ R.locals) (hlocks : meth.locks = false) :
    ∃ U : State, Steps p.tables e below (U0.setTop g) U ∧ U.status = .running ∧ Ended U below (.threw a) ∧ s.WarmedH U.vm ∧ s.sameButNew ({ U with vm := s.vm } : State) locs cells slots ∧ ∃ ce, U.heap[a]? = some ce ∧ ce.vm = .none ∧ s.vm.findClass nsX = some ce.cls := by
  have hpin : e.platform.frameOwnsMonitors = true ∧ e.platform.finalization = false ∧ e.platform.magicAccessors = ({} : Platform).magicAccessors := by
    refine ⟨?_, ?_, ?_⟩ <;> rw [X.admits.platform]
  have hh : ∀ w, w ∈ nsW own ic → w.holds args s none s [] = true := fun w hw => h w hw
  obtain ⟨T, Z0, L, -, Y⟩ := ThrowableC.of_atoms (args := args) hpin.1 hpin.2.1 hpin.2.2 (fun w hw => h w (by simp [nsW, hw]))
  obtain ⟨Z, N9, LZ, LM, hnZ⟩ := Init0T.ofS_atoms (args := args) hpin.2.2 L Y (fun w hw => h w (by simp [nsW, hw]))
  obtain ⟨P1, L1, hP1m, hP1s⟩ := PassC.ofS_atoms (args := args) (s := s) hpin.2.2 (X := nsX) (Y := nsY) (by decide +kernel) (by decide) th13_0 th13_1 th13_2 th13_5 (fun w hw => h w (by simp [nsW, hw]))
  obtain ⟨P2, Ps, hlen, L2, hL, hP2m, hlink2, hlink⟩ := Bundle.chainS (args := args) hpin.2.2 hnZ nsR nsY (by decide +kernel) (by decide +kernel) (fun w hw => h w (by simp [nsW, hw]))
  have hsup : P1.sup = P2.m := Option.some.inj (hP1s.symm.trans hP2m)
  have hfound : s.vm.findClass nsX = some P1.m.cls := findClass_of_methodNamed hP1m
  cases Option.some.inj (hfoundX.symm.trans hfound)
  obtain ⟨c1, kX', hc1, hk, hord, -, -, -⟩ := Cond.instantiable_spec (hh (.instantiable nsX 6) (by simp [nsW]))
  cases Option.some.inj (hc1.symm.trans hfound)
  cases Option.some.inj (hkX.symm.trans hk)
  have hsel : selectMethod e.platform s.vm P1.m.cls T.fill0 = .method T.fill0 ∧ selectMethod e.platform s.vm P1.m.cls T.fill = .method T.fill := by
    constructor
    · obtain ⟨c2, r2, m2, q1, q2, q3, q4, -⟩ := Cond.selects_spec (hh (.selects nsX Bundle.tFill0 Bundle.tFill0) (by simp [nsW]))
      cases Option.some.inj (q1.symm.trans hfound)
      cases Option.some.inj (q2.symm.trans (State.methodFound?_of_named Y.fill0 (by decide)))
      cases Option.some.inj (q3.symm.trans Y.fill0)
      rw [Launch.admits_selectMethod X.admits]; exact q4
    · obtain ⟨c2, r2, m2, q1, q2, q3, q4, -⟩ := Cond.selects_spec (hh (.selects nsX Bundle.tFill Bundle.tFill) (by simp [nsW]))
      cases Option.some.inj (q1.symm.trans hfound)
      cases Option.some.inj (q2.symm.trans (State.methodFound?_of_named Y.fill (by decide)))
      cases Option.some.inj (q3.symm.trans Y.fill)
      rw [Launch.admits_selectMethod X.admits]; exact q4
  obtain ⟨cellS0, hcS0, hiss⟩ := Y.statics
  obtain ⟨u0, hu0⟩ := Cond.staticRefV Y.unassigned L.unassignedStatic L.statics hcS0 hiss (hh (.isRef (.static Bundle.tN "UNASSIGNED_STACK" Bundle.steD)) (by simp [nsW]))
  obtain ⟨sen, hsen⟩ := Cond.staticRefV Y.sentinel L.sentinelStatic L.statics hcS0 hiss (hh (.isRef (.static Bundle.tN "SUPPRESSED_SENTINEL" Bundle.listD)) (by simp [nsW]))
  obtain ⟨ci9, i9, fB, hk9, hg9, ha9, hsB, -, hnB, htB, hffB⟩ := Cond.ownField (t := .object "java/lang/Object") Y.found L.cls (by decide +kernel) (hh (.fieldLink Bundle.tN 198 Bundle.tN "backtrace" "Ljava/lang/Object;") (by simp [nsW])) (hh (.lays Bundle.tN Bundle.tN "backtrace" "Ljava/lang/Object;") (by simp [nsW])) e.platform hpin.2.2
  obtain ⟨cellS, hcS, heS, -, hkeep⟩ := X.same.2.2.2.2.2 T.aS cellS0 hcS0
  have hfree : ∀ i, (⟨T.aS, i⟩ : Loc) ∉ locs := fun i hmem => by
    have := hlocs _ hmem cellS0 hcS0
    rw [hiss] at this; cases this
  have hknown : cellS.vm ≠ .unknown := by
    rw [heS]; intro hu
    rw [show cellS0.vm = .unknown from hu] at hiss
    cases hiss
  have hneS : T.aS ≠ a := Nat.ne_of_lt (Nat.lt_of_lt_of_le (Array.getElem?_eq_some_iff.mp hcS0).1 hnew)
  obtain ⟨iM, hffM⟩ := Y.msg
  obtain ⟨tyC, dC, hdC, hdnC⟩ := Cond.laysAt hfound hk Y.cause (hh (.lays nsX Bundle.tN "cause" "Ljava/lang/Throwable;") (by simp [nsW]))
  obtain ⟨tyS, dS, hdS, hdnS⟩ := Cond.laysAt hfound hk Y.stack (hh (.lays nsX Bundle.tN "stackTrace" Bundle.steD) (by simp [nsW]))
  obtain ⟨tyP, dP, hdP, hdnP⟩ := Cond.laysAt hfound hk Y.supp (hh (.lays nsX Bundle.tN "suppressedExceptions" Bundle.listD) (by simp [nsW]))
  obtain ⟨tyM, dM, hdM, hdnM⟩ := Cond.laysAt hfound hk hffM (hh (.lays nsX Bundle.tN "detailMessage" "Ljava/lang/String;") (by simp [nsW]))
  obtain ⟨tyB, dB, hdB, hdnB⟩ := Cond.laysAt hfound hk hffB (hh (.lays nsX Bundle.tN "backtrace" "Ljava/lang/Object;") (by simp [nsW]))
  have bC := Cond.laysApart hdB hdC hdnB hdnC (by rw [hnB, Y.causeName]; decide)
  have bS := Cond.laysApart hdB hdS hdnB hdnS (by rw [hnB, Y.stackName]; decide)
  have bP := Cond.laysApart hdB hdP hdnB hdnP (by rw [hnB, Y.suppName]; decide)
  have hskip : SkipFacts T e.platform s (fun u => u) u0 ((preparedCellV T.toThrowableT (freshCell P1.m.cls kX) a u0 sen).withEntry U0.cur) :=
    ⟨{ ci198 := ci9, i198 := i9, fBack := fB }, ⟨hk9, hg9, ha9, hsB⟩, by
      have := fresh_default (c := P1.m.cls) tyB
      rw [htB] at this
      simpa [preparedCellV, Cell.setSlot, Cell.withEntry, Array.getElem?_setIfInBounds, bC, bS, bP, bC.symm, bS.symm, bP.symm, defaultValue] using this, fun _ _ => rfl⟩
  obtain ⟨tm, methC, cdC, kC, vm₁, hnC, -, -, -, -, -, -, -, hW₁, st1⟩ := Steps.initColdS (tb := p.tables) (e := e) (below := below) (s := s) (U := U0) X.here hexec X.warmed hpin.2.2 hown (t := Bundle.initS nsX) rfl rfl (by decide)
    (hh (.methodLink own ic (Bundle.initS nsX)) (by simp [nsW])) (h (.instanceMethod (Bundle.initS nsX)) (by simp [nsW, Bundle.passSAtoms])) (bytes := thirteen) (maxL := 2) (h (.code (Bundle.initS nsX) thirteen 2 none) (by simp [nsW, Bundle.passSAtoms]))
    (f := g) hg (a := a) (msg := msg) (rest := .ref a :: rest) hstack hd6
  cases Option.some.inj (hnC.symm.trans hP1m)
  have X₁ := X.noted hW₁
  have hl2 : Ps.length = 1 := hlen
  obtain ⟨vm₂, X₂, st2⟩ := X₁.ctorMessageOffV hexec (g := { g with stack := .ref a :: rest }) hg hsize T L Z LZ N9 LM (P1 :: P2 :: Ps)
    (fun P hP => by
      rcases List.mem_cons.mp hP with rfl | hP
      · exact L1
      · rcases List.mem_cons.mp hP with rfl | hP
        · exact L2
        · exact hL P hP) ⟨hsup, hlink2, hlink⟩ (u0 := u0) (sen := sen) (self := a) hmsg (cell := freshCell P1.m.cls kX) (cellS := cellS)
    hcell (fun _ => by simp) (by simp) rfl rfl hsel.1 hsel.2 hcS hneS hknown (by rw [hkeep _ (hfree _)]; exact hu0) (by rw [hkeep _ (hfree _)]; exact hsen)
    (Takes.of_laid hk hord tyC (by rw [Y.causeType]; rfl)) (Takes.of_laid hk hord tyS (by rw [Y.stackType]; exact fits_refV_array _ u0)) (Takes.of_laid hk hord tyP (by rw [Y.suppType]; exact fits_refV_object _ sen))
    (Takes.of_laid hk hord tyM (by rw [Y.msgType]; exact fits_refV_object _ ⟨msg, hmsg⟩)) Y.objLocals hskip htr [] hd6
    (by simp only [List.length_cons, hl2]; omega) (by simp only [List.length_cons, hl2]; exact hRl)
  obtain ⟨hwalk, hrun, hended, hWU, hsame⟩ := X₂.athrowLeaves hexec (g := { g with stack := .ref a :: rest, pc := g.pc + 3 }) hg hlocked hentered hout (a := a) (rest := rest) rfl hd9
  have hlt : a < ((U0.setVm vm₁).setVm vm₂).heap.size := (Array.getElem?_eq_some_iff.mp hcell).1
  have hU := heapAt_setCell_self (s := (U0.setVm vm₁).setVm vm₂) (plainBareV T.toThrowableT (freshCell P1.m.cls kX) a u0 sen msg) hlt
  refine ⟨_, st1 _ (fun acts => ?_), hrun, hended, hWU, hsame.weaken (fun y hy hlt' => ?_) (Nat.le_refl _) (Nat.le_refl _), _, hU, rfl, hfound⟩
  · rw [doInvoke_state]
    exact st2 _ hwalk
  · rcases List.mem_append.mp hy with h1 | h1
    · exact h1
    · exfalso
      have hb : y.base = a := by
        simp only [List.mem_cons, List.not_mem_nil, or_false] at h1
        rcases h1 with rfl | rfl | rfl | rfl | rfl <;> rfl
      rw [hb] at hlt'
      exact Nat.not_lt.mpr hnew hlt'
end NSE
section NSE2
variable {p : Program} {l : Launch} {e : Env} {R : Room} {s : State} {m : MethodId} {args : Array Value} {below : List Frame} {meth : Method} {c : Code} {H : Heap} {locs : List Loc} {cells slots : Nat}
variable {mc ms : Nat} {free : Addr → Prop} {ls : Array Slot} {rest : List Value} {Qc : Array Value → State → Outcome → State → Prop} {XC : String → State → State → Prop}
theorem ns_throw (wide : Bool) {cc : ByteArray} {pc : Nat} (hexec : p.tables.exec = Jvm.exec) (hb : c.code = cc) (hl : l.stackTraces = false) {own text : String} {ik is ic sa : Nat} {A : Nat → Prop}
    (hown : s.vm.findClass own = some m.cls) (hk : (Cond.classLink own ik nsX).before args s = true) (hini : (Cond.initialized nsX).before args s = true) (hstr : vk_R own is text sa s) (hat : ∀ w ∈ (nsW own ic).filter vx_no, w.before args s = true)
    (hgood : ∀ w ∈ Cond.classLink own ik nsX :: Cond.initialized nsX :: (nsW own ic).filter vx_no, vx_ot w = true)
    (hU : vx_Zq Bundle.tN "UNASSIGNED_STACK" Bundle.steD A s s.heap) (hN : vx_Zq Bundle.tN "SUPPRESSED_SENTINEL" Bundle.listD A s s.heap) (hS : va_S A s.heap H locs) (hsize : ls.size = c.maxLocals)
    (d0 : decode cc pc = .ok (.new ik, 3)) (d3 : decode cc (pc + 3) = .ok (.dup, 1)) (d4 : decode cc (pc + 4) = .ok (if wide then (.ldc_w is, 3) else (.ldc is, 2))) (d6 : decode cc (pc + 4 + (if wide then 3 else 2)) = .ok (.invokespecial ic, 3)) (d9 : decode cc (pc + 4 + (if wide then 3 else 2) + 3) = .ok (.athrow, 1))
    (hout : ∀ x ∈ c.exceptionTable.toList, covers x (pc + 4 + (if wide then 3 else 2) + 3) = false)
    (hRframes : 5 < R.frames) (hRlocals : (rest.map fun v => v.category).sum + 90 ≤ R.locals) (hRcells : cells + 1 ≤ R.cells) (hRslots : slots + 6 ≤ R.slots) (hlocks : meth.locks = false)
    (hx : ∀ t : State, s.vm.Alike t.vm → H.size ≤ t.heap.size → (∀ q : Nat, q < H.size → t.heap[q]? = H[q]?) → XC nsX s t)
    (hf : ∀ z ∈ locs, free z.base) (hc : cells + 1 ≤ mc) (hs : slots + 6 ≤ ms) :
    W p l e R s m args below meth c H locs cells slots (vx_MQ below Qc XC args s mc ms free) (F0 m pc ls rest) := by
  intro T hT X
  have htr : e.platform.stackTraces = false := (show e.platform.stackTraces = l.stackTraces by rw [X.admits.platform]).trans hl
  have Y := vx_rebase X (R' := { frames := R.frames, locals := R.locals, cells := 1, slots := 6 }) (Nat.le_refl _) (Nat.le_refl _) hRcells hRslots
  obtain ⟨s', hA⟩ : ∃ z, z = (T.setVm s.vm).setFrames (.invoking m args :: below) := ⟨_, rfl⟩
  rw [← hA] at Y
  have hvm : s'.vm = s.vm := by rw [hA]; rfl
  have hhp : s'.heap = H := by rw [hA]; exact hT
  have hW0 : s.WarmedH s'.vm := by rw [hvm]; exact State.WarmedH.refl s
  have hat' : ∀ w ∈ (nsW own ic).filter vx_no, w.before args s' = true := fun w hw => vx_ot_at hW0 hvm.symm (hgood w (List.mem_cons_of_mem _ (List.mem_cons_of_mem _ hw))) (hat w hw)
  have hk' : (Cond.classLink own ik nsX).before args s' = true := vx_ot_at hW0 hvm.symm (hgood _ List.mem_cons_self) hk
  have hini' : (Cond.initialized nsX).before args s' = true := vx_ot_at hW0 hvm.symm (hgood _ (List.mem_cons_of_mem _ List.mem_cons_self)) hini
  have hU' : vx_Zq Bundle.tN "UNASSIGNED_STACK" Bundle.steD A s' s'.heap := by rw [hhp]; exact vx_Zq.moved hW0.alike (hU.kept hS.2.1)
  have hN' : vx_Zq Bundle.tN "SUPPRESSED_SENTINEL" Bundle.listD A s' s'.heap := by rw [hhp]; exact vx_Zq.moved hW0.alike (hN.kept hS.2.1)
  have h : ∀ w ∈ nsW own ic, w.before args s' = true := vx_own hat' (vx_isRefq hU'.1) (vx_isRefq hN'.1) hU'.2.word hN'.2.word
  have hown' : s'.vm.findClass own = some m.cls := by rw [hvm]; exact hown
  have hins : (Cond.instantiable nsX 6).before args s' = true := h _ (by simp [nsW])
  obtain ⟨vm₁, cX, kX, hfX, hkX, -, -, X₁, st1⟩ := Y.newCold hexec (own := own) (C := nsX) (index := ik) (n := 6) hown' hk' hins hini'
    (g := F0 m pc ls rest) rfl (by rw [hb]; exact d0) (Nat.le_refl _) (Nat.le_refl _)
  generalize hT1 : (T.setVm vm₁).pushCell { cls := cX, slots := kX.instanceTypes.map defaultValue, vm := .none } = T1 at X₁ st1
  have hcat : (Value.ref T.heap.size).category = 1 := rfl
  have hcellA : T1.heap[T.heap.size]? = some (freshCell cX kX) := by rw [← hT1]; exact State.heap_pushCell_size _ _
  have d3' : decode c.code (pc + 3) = .ok (.dup, 1) := by rw [hb]; exact d3
  have hstr' : vk_R own is text sa s' := vk_R.warm hW0 hstr
  obtain ⟨U, hsteps, hrun, hend, hW, hsame, ce, hce, hO, hcl0⟩ := ns_ctorThrow X₁ hexec htr (own := own) (ic := ic) hown' h (fun x hx => nomatch hx) hfX hkX hcellA (by rw [hhp, hT]; exact Nat.le_refl _) (msg := .ref sa) rfl
    (g := { method := m, pc := pc + 4 + (if wide then 3 else 2), locals := ls, stack := .ref sa :: .ref T.heap.size :: .ref T.heap.size :: rest, locked := none }) rfl hsize rfl rfl (rest := rest) rfl
    (by rw [hb]; exact d6) (by rw [hb]; exact d9) hout hRframes (by show 2 * 0 + _ + 81 ≤ R.locals; simp only [List.map_cons, List.sum_cons, hcat]; omega) hlocks
  obtain ⟨f1, f2⟩ := vx_frame hsame
  rw [hhp] at f1 f2
  have hWs : s.WarmedH U.vm := State.WarmedH.trans hW0 hW
  have hcl : s.vm.findClass nsX = some ce.cls := by rw [hvm] at hcl0; exact hcl0
  have hall : s.sameButNew ({ U with vm := s.vm } : State) locs mc ms := by
    subst hA
    obtain ⟨e1, e2⟩ := hsame
    rw [State.setFrames_setFrames] at e1
    have h2 : (T.setVm s.vm).sameButNew ({ U with vm := s.vm } : State) [] (0 + 1) (0 + 6) := ⟨e1, e2⟩
    have h3 := X.same.trans h2
    rw [List.append_nil] at h3
    exact h3.mono hc hs
  refine ⟨U, ?_, .threw T.heap.size, hrun, hend, Or.inr ⟨T.heap.size, rfl, nsX, ce, locs, hx U hWs.alike f1 (fun q hq => f2 q hq (fun z hz => nomatch hz)), hce, hO, hcl, hWs, hall, hf⟩⟩
  refine st1 _ ?_
  show Steps p.tables e below (T1.setTop { method := m, pc := pc + 3, locals := ls, stack := .ref T.heap.size :: rest, locked := none }) _
  jvm_step X₁.here [X₁.here.top, hexec, d3', Value.category]
  cases wide with
  | false => exact X₁.ldcString hexec (own := own) (text := text) (index := is) (a := sa) hown' hstr'.1 hstr'.2 (g := { method := m, pc := pc + 4, locals := ls, stack := .ref T.heap.size :: .ref T.heap.size :: rest, locked := none }) rfl (by rw [hb]; exact d4) _ hsteps
  | true => exact X₁.ldcStringW hexec (own := own) (text := text) (index := is) (a := sa) hown' hstr'.1 hstr'.2 (g := { method := m, pc := pc + 4, locals := ls, stack := .ref T.heap.size :: .ref T.heap.size :: rest, locked := none }) rfl (by rw [hb]; exact d4) _ hsteps
end NSE2

def exW (own : String) (ic k : Nat) : List Cond := if k = 0 then (nsW own ic).filter vx_no else vx_atS own ic (exN 1) exNm
def TH (own : String) (ik ic k : Nat) : Prop := Cond.classLink own ik (exN k) ∈ gw ∧ Cond.initialized (exN k) ∈ gw ∧ (∀ w ∈ exW own ic k, w ∈ gw ∨ w ∈ exL) ∧ Bundle.fit (exN k) = true
theorem TH_of {own : String} {ik ic k : Nat} (i j : Nat) (ps : List Nat) (h1 : lw_tbl[i]? = some (Cond.classLink own ik (exN k))) (h2 : lw_tbl[j]? = some (Cond.initialized (exN k))) (h3 : exW own ic k = ps.filterMap (fun i => (lw_tbl ++ exL)[i]?)) (h4 : (exW own ic k).all (fun w => goodWord w || decide (w ∈ exL)) = true) (h5 : Bundle.fit (exN k) = true) : TH own ik ic k := by
  refine ⟨gin i h1 rfl, gin j h2 rfl, fun w hw => ?_, h5⟩
  have h6 := List.all_eq_true.mp h4 w hw
  simp only [Bool.or_eq_true, decide_eq_true_eq] at h6
  rcases h6 with h6 | h6
  · rw [h3] at hw
    obtain ⟨i, -, hi⟩ := List.mem_filterMap.mp hw
    rcases List.mem_append.mp (List.mem_of_getElem? hi) with h7 | h7
    · exact Or.inl (List.mem_filter.mpr ⟨h7, h6⟩)
    · exact Or.inr h7
  · exact Or.inr h6
theorem exL_at {s : State} {args : Array Value} (h : SX s) : ∀ w ∈ exL, w.before args s = true := by
  intro w hw
  simp only [exL, List.mem_cons, List.not_mem_nil, or_false] at hw
  rcases hw with rfl | rfl | rfl | rfl | rfl
  · exact va_Nw.use rfl (h.1 _ (by simp [exC]))
  · exact va_Nw.use rfl (h.1 _ (by simp [exC]))
  · exact va_Nw.use rfl (h.2.1 _ (by simp [exDc]))
  · exact va_Nw.use rfl (h.2.1 _ (by simp [exDc]))
  · exact va_Nw.use rfl (h.2.1 _ (by simp [exDc]))
theorem exL_ot : ∀ w ∈ exL, vx_ot w = true := by decide +kernel
theorem gw_ot {w : Cond} (h : w ∈ gw) : vx_ot w = true := by
  have := (List.mem_filter.mp h).2
  simp [vx_ot, this]
def QcX (G : Ctx) (res : Int32 ⊕ Nat) (M' : Mem) (sz : Nat) : Array Value → State → Outcome → State → Prop := fun _ st o t => (∃ v, res = .inl v ∧ o = .returned (some (.int v)) ∧ va_P (gD G) vwCl (wsM G M') t.heap) ∧ va_F (gA G sz) st t
def XcX (G : Ctx) (res : Int32 ⊕ Nat) (M' : Mem) (sz : Nat) : String → State → State → Prop := fun E st t => (∃ k, res = .inr k ∧ E = exN k ∧ va_P (gD G) vwCl (wsM G M') t.heap) ∧ va_F (gA G sz) st t
def CtX (G : Ctx) (y : MethodName) (b : ByteArray) (mL : Nat) (ret : Option FieldType) (F Lo : Nat) (av : List Value) (M : Mem) (res : Int32 ⊕ Nat) (M' : Mem) : Prop :=
  ∀ sz, vx_Met (gl G) y (wsy y b mL ret) (rmv F Lo 1 6) (va_Pc av (Pcm G M sz)) (QcX G res M' sz) (XcX G res M' sz) 1 6 (gA G sz)
section CTX
variable {G : Ctx} {y : MethodName} {b : ByteArray} {mL F Lo : Nat} {av : List Value} {M M' : Mem}
theorem ct_x {ty : FieldType} {res : Int32 ⊕ Nat} (hfl : (gl G).stackTraces = false) (hW : WFG G) (hy : plainName y.cls = true) (hlen : (lg_sl av).length ≤ mL) (hF : 10 ≤ F ∧ 200 ≤ Lo)
    (body : ∀ w, Rb G b y.cls mL F Lo w → (∀ (pc : Nat) (ls : List (Nat × Value)) (v : Int32), res = .inl v → narrow ty (.int v) = .int v → decode b pc = .ok (.ireturn, 1) → w M' pc ls [.int v]) →
      (∀ (pc : Nat) (ls : List (Nat × Value)) (ik is ic k j i : Nat) (tx : String), res = .inr k → TH y.cls ik ic k → strT[j]? = some (y.cls, is, tx, i) → (decode b pc = .ok (.new ik, 3) ∧ decode b (pc + 3) = .ok (.dup, 1) ∧ ((decode b (pc + 4) = .ok (.ldc is, 2) ∧ decode b (pc + 6) = .ok (.invokespecial ic, 3) ∧ decode b (pc + 9) = .ok (.athrow, 1)) ∨ (decode b (pc + 4) = .ok (.ldc_w is, 3) ∧ decode b (pc + 7) = .ok (.invokespecial ic, 3) ∧ decode b (pc + 10) = .ok (.athrow, 1)))) → w M' pc ls []) → w M 0 (lv_args 0 av) []) : CtX G y b mL (some ty) F Lo av M res M' := by
  intro sz
  refine vx_ofW (cc := b) (maxL := mL) (ret := some ty) hy rfl ?_
  intro p e s m args below meth c s₁ B hml htab hv
  obtain ⟨rfl, hsz, hP, hK, hSK⟩ := hv
  subst hsz
  have hts := atoms_spec (ws := wsy y b mL (some ty)) B.pre
  have hts' : ∀ w ∈ gw, w.before av.toArray s = true := fun w hw => hts w (List.mem_cons_of_mem _ hw)
  have hown : s.vm.findClass y.cls = some m.cls := findClass_of_methodNamed B.named
  rw [lg_entry_eq]
  refine body (WX G p e (headSpec (wsy y b mL (some ty)) (rmv F Lo 1 6)).room s m av.toArray below meth c mL 0 0 _) ⟨hW, p, e, _, s, m, av.toArray, below, meth, c, 0, 0, _, ⟨B.exec, B.bytes, hml, hown, hts', hK, hSK, Nat.le_refl _, Nat.le_refl _, Nat.zero_le _, Nat.zero_le _⟩, rfl⟩ ?_ ?_ s.heap [] _ hP va_S.rf (lv_entry av hlen)
  · intro pc ls v hv hn d H locs lsA hP1 hS1 hl1
    refine vx_ret (W.widen (k := 1) (n := 6) (Nat.zero_le _) (Nat.zero_le _) ?_)
    exact W.zret B.exec B.bytes B.returns hn (fun t ht hW => ⟨⟨v, hv, rfl, by rw [ht]; exact hP1⟩, hS1.F ht⟩) hS1.2.2 d B.notSynchronized
  · intro pc ls ik is ic k j i tx hk hT hj hd H locs lsA hP1 hS1 hl1
    have hat : ∀ w ∈ exW y.cls ic k, w.before av.toArray s = true := fun w hw => (hT.2.2.1 w hw).elim (hts' w) (exL_at hSK.2.2.2.2.2.2.2 w)
    have hgood : ∀ w ∈ Cond.classLink y.cls ik (exN k) :: Cond.initialized (exN k) :: exW y.cls ic k, vx_ot w = true := by
      intro w hw
      rcases List.mem_cons.mp hw with rfl | hw
      · exact gw_ot hT.1
      · rcases List.mem_cons.mp hw with rfl | hw
        · exact gw_ot hT.2.1
        · exact (hT.2.2.1 w hw).elim gw_ot (exL_ot w)
    have hstr := hSK.2.1 (y.cls, is, tx, i) (List.mem_of_getElem? hj)
    have hx : ∀ t : State, s.vm.Alike t.vm → H.size ≤ t.heap.size → (∀ q : Nat, q < H.size → t.heap[q]? = H[q]?) → XcX G res M' s.heap.size (exN k) s t := by
      intro t _ h1 h2
      refine ⟨⟨k, hk, rfl, hP1.kept (fun n q hq => h2 q.1 (hP1 n q hq).lt)⟩, Nat.le_trans hS1.1 h1, fun q g1 g2 => ?_⟩
      rw [h2 q (Nat.lt_of_lt_of_le g1 hS1.1)]
      exact hS1.2.1 q g1 g2
    have hnm : ∀ n ∈ exNm, Bundle.fit n = true := by decide +kernel
    by_cases hk0 : k = 0
    · subst hk0
      obtain ⟨d0, d3, ⟨d4, d6, d9⟩ | ⟨d4, d6, d9⟩⟩ := hd
      · exact ns_throw false (ik := ik) (is := is) (ic := ic) B.exec B.bytes hfl hown (hts' _ hT.1) (hts' _ hT.2.1) hstr hat hgood hSK.2.2.1 hSK.2.2.2.1 hS1 (hl1.1.trans hml.symm) d0 d3 d4 d6 d9 (fun x hx => (htab x hx).elim) (by show 5 < F; omega) (by show 0 + 90 ≤ Lo; omega) (Nat.le_refl _) (Nat.le_refl _) B.notSynchronized hx hS1.2.2 (Nat.le_refl _) (Nat.le_refl _)
      · exact ns_throw true (ik := ik) (is := is) (ic := ic) B.exec B.bytes hfl hown (hts' _ hT.1) (hts' _ hT.2.1) hstr hat hgood hSK.2.2.1 hSK.2.2.2.1 hS1 (hl1.1.trans hml.symm) d0 d3 d4 d6 d9 (fun x hx => (htab x hx).elim) (by show 5 < F; omega) (by show 0 + 90 ≤ Lo; omega) (Nat.le_refl _) (Nat.le_refl _) B.notSynchronized hx hS1.2.2 (Nat.le_refl _) (Nat.le_refl _)
    · have hk1 : exN k = exN 1 := by simp [exN, hk0]
      have hk2 : exW y.cls ic k = vx_atS y.cls ic (exN 1) exNm := by simp [exW, hk0]
      rw [hk2] at hat hgood
      rw [hk1] at hgood hx
      have hT1 := hT.1
      have hT2 := hT.2.1
      have hT4 := hT.2.2.2
      rw [hk1] at hT1 hT2 hT4
      obtain ⟨d0, d3, ⟨d4, d6, d9⟩ | ⟨d4, d6, d9⟩⟩ := hd
      · exact vx_throwS (names := exNm) (ik := ik) (is := is) (ic := ic) B.exec B.bytes hfl hown hT4 hnm (hts' _ hT1) (hts' _ hT2) hstr hat hgood hSK.2.2.1 hSK.2.2.2.1 hS1 (hl1.1.trans hml.symm) d0 d3 d4 d6 d9 (fun x hx => (htab x hx).elim) (by show 2 + 3 < F; omega) (by show 0 + (13 * 3 + 43) ≤ Lo; omega) (Nat.le_refl _) (Nat.le_refl _) B.notSynchronized hx hS1.2.2 (Nat.le_refl _) (Nat.le_refl _)
      · exact vx_throwSW (names := exNm) (ik := ik) (is := is) (ic := ic) B.exec B.bytes hfl hown hT4 hnm (hts' _ hT1) (hts' _ hT2) hstr hat hgood hSK.2.2.1 hSK.2.2.2.1 hS1 (hl1.1.trans hml.symm) d0 d3 d4 d6 d9 (fun x hx => (htab x hx).elim) (by show 2 + 3 < F; omega) (by show 0 + (13 * 3 + 43) ≤ Lo; omega) (Nat.le_refl _) (Nat.le_refl _) B.notSynchronized hx hS1.2.2 (Nat.le_refl _) (Nat.le_refl _)
end CTX
theorem th_52_56 : TH RX10 52 56 1 := TH_of 907 106 [103, 929, 938, 941, 944, 946, 930, 931, 120, 121, 932, 937, 942, 962, 919, 963, 921, 964, 923, 933, 935, 925, 958, 959, 961, 925, 949, 950, 951, 952, 2008, 952, 953, 954, 955, 2009, 955, 956, 957, 958, 2010, 948, 908, 2006, 916, 917, 918, 920, 922, 924, 960, 927, 926] (by decide +kernel) (by decide +kernel) (by decide +kernel) (by decide +kernel) (by decide +kernel)
theorem th_176_180 : TH RX10 176 180 0 := TH_of 1142 112 [103, 929, 938, 941, 944, 946, 930, 931, 120, 121, 932, 937, 942, 962, 919, 963, 921, 964, 923, 933, 935, 925, 958, 959, 961, 925, 1153, 1154, 1155, 952, 2008, 952, 953, 954, 955, 2009, 955, 956, 957, 958, 2010, 1152, 1143, 2007, 1145, 940, 1146, 1147, 1148, 1149, 960, 927, 1150] (by decide +kernel) (by decide +kernel) (by decide +kernel) (by decide +kernel) (by decide +kernel)
section RETX
variable {cc : ByteArray} {own : String} {w : Mem → Nat → List (Nat × Value) → List Value → Prop} {M M' : Mem} {pc : Nat} {ls : List (Nat × Value)} {res : Int32 ⊕ Nat}
theorem ret_x {ty : FieldType} {v : Int32} (hr : ∀ (pc : Nat) (ls : List (Nat × Value)) (v : Int32), res = .inl v → narrow ty (.int v) = .int v → decode cc pc = .ok (.ireturn, 1) → w M' pc ls [.int v]) (hn : narrow ty (.int v) = .int v) (d : decode cc pc = .ok (.ireturn, 1)) : ((.inl v, M) : (Int32 ⊕ Nat) × Mem) = (res, M') → w M pc ls [.int v] := fun e => by cases e; exact hr pc ls v rfl hn d
theorem ret_t {ik is ic k i : Nat} {tx : String} (ht : ∀ (pc : Nat) (ls : List (Nat × Value)) (ik is ic k j i : Nat) (tx : String), res = .inr k → TH own ik ic k → strT[j]? = some (own, is, tx, i) → (decode cc pc = .ok (.new ik, 3) ∧ decode cc (pc + 3) = .ok (.dup, 1) ∧ ((decode cc (pc + 4) = .ok (.ldc is, 2) ∧ decode cc (pc + 6) = .ok (.invokespecial ic, 3) ∧ decode cc (pc + 9) = .ok (.athrow, 1)) ∨ (decode cc (pc + 4) = .ok (.ldc_w is, 3) ∧ decode cc (pc + 7) = .ok (.invokespecial ic, 3) ∧ decode cc (pc + 10) = .ok (.athrow, 1)))) → w M' pc ls [])
    (hT : TH own ik ic k) (j : Nat) (hj : strT[j]? = some (own, is, tx, i)) (hd : decode cc pc = .ok (.new ik, 3) ∧ decode cc (pc + 3) = .ok (.dup, 1) ∧ ((decode cc (pc + 4) = .ok (.ldc is, 2) ∧ decode cc (pc + 6) = .ok (.invokespecial ic, 3) ∧ decode cc (pc + 9) = .ok (.athrow, 1)) ∨ (decode cc (pc + 4) = .ok (.ldc_w is, 3) ∧ decode cc (pc + 7) = .ok (.invokespecial ic, 3) ∧ decode cc (pc + 10) = .ok (.athrow, 1)))) : ((.inr k, M) : (Int32 ⊕ Nat) × Mem) = (res, M') → w M pc ls [] := fun e => by cases e; exact ht pc ls ik is ic k j i tx rfl hT hj hd
end RETX
