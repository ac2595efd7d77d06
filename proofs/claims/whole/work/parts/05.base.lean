/-! The abstract machine: one memory of ints, laid over the real cells; rules over it, proved once out of the kit's rows. -/
abbrev Mem : Type := (Nat → Nat → Int32) × (Nat → Nat → Int64) × (Nat → Nat)
def wi (M : Mem) (a k : Nat) (v : Int32) : Mem := (fun b j => if b = a ∧ j = k then v else M.1 b j, M.2)
def wl (M : Mem) (a k : Nat) (v : Int64) : Mem := (M.1, fun b j => if b = a ∧ j = k then v else M.2.1 b j, M.2.2)
def wd (M : Mem) (j a : Nat) : Mem := (M.1, M.2.1, fun i => if i = j then a else M.2.2 i)
def fkT : List (List (Nat × Nat)) := [[(0, 0), (0, 0), (0, 0), (0, 0), (0, 0), (0, 0), (0, 0), (0, 0), (0, 0), (1, 1), (1, 2)], [(0, 0), (0, 0), (0, 0), (0, 0), (0, 0), (0, 0), (0, 0), (0, 0), (0, 0), (1, 1), (1, 2), (1, 3), (0, 0), (0, 0)], [(1, 1), (0, 0), (0, 0), (0, 0), (0, 0), (0, 0), (1, 13), (1, 14), (1, 15)], [(0, 0), (0, 0), (0, 0), (0, 0), (0, 0), (0, 0), (0, 0), (0, 0), (1, 1), (1, 2), (1, 5)], [(0, 0), (0, 0), (0, 0), (0, 0), (0, 0), (1, 1), (1, 2)], [(0, 0), (0, 0), (0, 0), (0, 0), (0, 0), (0, 0), (0, 0), (0, 0), (0, 0), (0, 0), (1, 1), (1, 4)], [(1, 1), (0, 0), (0, 0), (0, 0), (0, 0), (0, 0), (0, 0), (0, 0), (2, 1), (2, 2), (0, 0)], [(1, 1), (0, 0), (1, 2)], [(1, 1), (1, 13), (0, 0), (1, 25), (1, 26), (0, 0), (1, 27), (1, 28), (1, 29)], [(0, 0), (1, 1), (1, 5)], [(1, 1), (2, 0), (1, 19), (1, 49), (0, 1), (1, 79)], [(1, 1), (1, 2), (0, 0), (1, 3), (1, 4), (1, 5), (1, 6), (1, 7), (1, 8), (0, 1), (0, 1), (1, 9), (0, 0), (0, 0), (0, 0), (0, 0), (0, 0), (0, 0), (0, 0), (0, 0), (0, 0), (0, 0), (1, 10), (1, 11), (0, 0), (0, 0), (1, 12), (1, 13), (1, 14), (0, 0), (0, 0), (0, 0), (0, 0), (1, 15), (1, 16), (1, 17), (0, 0), (0, 0), (1, 18), (1, 19), (1, 20), (1, 21), (0, 0), (0, 0), (0, 1), (0, 0), (0, 0), (1, 22), (1, 23), (1, 24), (1, 25), (1, 26)]]
def fkd (ci k : Nat) : Nat × Nat := (fkT.getD ci []).getD k (0, 0)
def nfl (ci : Nat) : Nat := (fkT.getD ci []).length
def cloT : List (Nat × Nat × (Nat × Nat)) := [(0, 1, (1, 64)), (0, 2, (1, 64)), (1, 1, (1, 40)), (1, 2, (1, 40)), (1, 3, (1, 40)), (2, 1, (0, 9)), (2, 13, (1, 5)), (2, 14, (1, 5)), (2, 15, (1, 645)), (3, 1, (1, 16)), (3, 2, (0, 7)), (3, 5, (0, 7)), (4, 1, (1, 128)), (4, 2, (1, 128)), (5, 1, (0, 0)), (5, 4, (0, 4)), (6, 1, (1, 700)), (6, 2, (0, 3)), (6, 10, (0, 3)), (6, 4, (0, 7)), (6, 7, (0, 7)), (6, 12, (0, 7)), (6, 15, (0, 7)), (7, 1, (1, 700)), (7, 2, (1, 40)), (8, 1, (0, 9)), (8, 13, (0, 9)), (8, 25, (1, 40)), (8, 26, (1, 40)), (8, 27, (1, 8)), (8, 28, (1, 8)), (8, 29, (1, 3)), (9, 1, (0, 1)), (9, 5, (0, 5)), (10, 1, (0, 6)), (10, 19, (0, 8)), (10, 49, (0, 8)), (10, 79, (0, 2)), (10, 3, (0, 3)), (10, 11, (0, 3)), (11, 1, (4, 4)), (11, 2, (8, 9)), (11, 3, (1, 20)), (11, 4, (1, 32)), (11, 5, (1, 1400)), (11, 6, (1, 1400)), (11, 7, (1, 3)), (11, 8, (1, 665)), (11, 9, (1, 700)), (11, 10, (1, 4)), (11, 11, (1, 64)), (11, 12, (1, 8192)), (11, 13, (1, 2048)), (11, 14, (2, 2048)), (11, 15, (1, 26600)), (11, 16, (1, 665)), (11, 17, (1, 441)), (11, 18, (1, 8)), (11, 19, (1, 8)), (11, 20, (1, 199)), (11, 21, (1, 995)), (11, 22, (1, 665)), (11, 23, (1, 26600)), (11, 24, (1, 8)), (11, 25, (1, 8)), (11, 26, (1, 3))]
abbrev Ctx : Type := Launch × va_G × (Nat → Nat × Nat) × List Nat × (Nat → ClassId) × (Nat → Nat) × (Nat → Nat)
abbrev gl (G : Ctx) : Launch := G.1
abbrev gD (G : Ctx) : va_G := G.2.1
abbrev glay (G : Ctx) : Nat → Nat × Nat := G.2.2.1
abbrev gL (G : Ctx) : List Nat := G.2.2.2.1
abbrev gcA (G : Ctx) : Nat → ClassId := G.2.2.2.2.1
abbrev gaK (G : Ctx) : Nat → Nat := G.2.2.2.2.2.1
abbrev gaV (G : Ctx) : Nat → Nat := G.2.2.2.2.2.2
def hs (G : Ctx) (a : Nat) (t : Nat × Nat) : Prop := a ∈ gL G ∧ glay G a = t
def WFG (G : Ctx) : Prop := (gL G).Nodup ∧ (∀ q ∈ cloT, ∀ a, hs G a (0, q.1) → hs G (a + q.2.1) q.2.2) ∧ ∀ a b ci, ci = 6 ∨ ci = 10 → hs G a (0, ci) → hs G b (0, ci) → b = a
def fvl (M : Mem) (a ci k : Nat) : Value := match (fkd ci k).1 with
  | 0 => .int (M.1 a k)
  | 1 => .ref (a + (fkd ci k).2)
  | _ => .ref (M.2.2 (fkd ci k).2)
def flds (M : Mem) (a ci : Nat) : List Value := (List.range (nfl ci)).map (fvl M a ci)
def cellM (G : Ctx) (M : Mem) (a : Nat) : va_E := match (glay G a).1 with
  | 0 => .inr ((glay G a).2, flds M a (glay G a).2)
  | 1 => .inl (gcA G 0, ((glay G a).2, .inl (M.1 a)))
  | 2 => .inl (gcA G 1, ((glay G a).2, .inl (M.1 a)))
  | 3 => .inl (gcA G 2, ((glay G a).2, .inr (.inl (M.2.1 a))))
  | t + 4 => .inl (gcA G 3, ((glay G a).2, .inr (.inr (.inr (.inr (fun k => some (gaK G (t + k))))))))
def wsM (G : Ctx) (M : Mem) : va_W := va_pl (gL G) (cellM G M)
def gA (G : Ctx) (sz : Nat) : Nat → Prop := fun q => q ∈ gL G ∨ sz ≤ q
def gT (G : Ctx) : List (ClassId × FieldType) := [(gcA G 0, .int), (gcA G 1, .boolean), (gcA G 2, .long), (gcA G 3, .object "java/lang/String")]
def sLen : List Nat := [6, 4, 4, 6, 4, 6, 4, 5, 6, 5, 4, 5, 4, 2, 3, 3, 6, 4, 4, 6, 4, 6, 4, 5, 6, 5, 4, 5, 4, 2, 3, 3]
def sByt : List (List Int32) := [[112, 97, 99, 107, 101, 116], [116, 105, 109, 101], [108, 97, 115, 116], [102, 108, 121, 105, 110, 103], [115, 105, 122, 101], [116, 97, 114, 103, 101, 116], [103, 97, 105, 110], [101, 118, 101, 114, 121], [111, 102, 102, 115, 101, 116], [102, 114, 97, 109, 101], [119, 111, 114, 100], [100, 101, 108, 97, 121], [108, 111, 115, 116], [111, 114], [97, 110, 100], [110, 111, 116], [112, 97, 99, 107, 101, 116], [116, 105, 109, 101], [108, 97, 115, 116], [102, 108, 121, 105, 110, 103], [115, 105, 122, 101], [116, 97, 114, 103, 101, 116], [103, 97, 105, 110], [101, 118, 101, 114, 121], [111, 102, 102, 115, 101, 116], [102, 114, 97, 109, 101], [119, 111, 114, 100], [100, 101, 108, 97, 121], [108, 111, 115, 116], [111, 114], [97, 110, 100], [110, 111, 116]]
def strT : List (String × Nat × String × Nat) := [("CircuitCells", 54, "the tape has not so many bytes", 32), ("CircuitCells$Reader", 91, "size", 20), ("CircuitCells$Reader", 97, "target", 21), ("CircuitCells$Reader", 99, "gain", 22), ("CircuitCells$Reader", 101, "every", 23), ("CircuitCells$Reader", 103, "offset", 24), ("CircuitCells$Reader", 105, "frame", 25), ("CircuitCells$Reader", 107, "word", 26), ("CircuitCells$Reader", 109, "delay", 27), ("CircuitCells$Reader", 110, "lost", 28), ("CircuitCells$Reader", 181, "packet", 16), ("CircuitCells$Reader", 183, "time", 17), ("CircuitCells$Reader", 185, "last", 18), ("CircuitCells$Reader", 187, "flying", 19), ("CircuitCells$Reader", 172, "not", 31), ("CircuitCells$Reader", 174, "or", 29), ("CircuitCells$Reader", 176, "and", 30), ("CircuitCells", 178, "no such count", 33), ("CircuitCells", 223, "no such setting", 34), ("CircuitCells", 225, "no such packet in flight", 35), ("CircuitCells", 236, "no such number", 36), ("CircuitCells", 244, "no such octet", 37), ("CircuitCells", 253, "not 1 to 128", 38), ("CircuitCells", 258, "no such span", 39), ("CircuitCells", 260, "no such sample", 40), ("CircuitCells", 265, "not 2 to 128", 41), ("CircuitCells", 274, "nothing to turn", 42), ("CircuitCells", 287, "no such question", 43), ("CircuitCells", 289, "not 0 to 400", 44), ("CircuitCells", 306, "not 1 to 400", 45), ("CircuitCells", 341, "not 1 to 5 packets, 0 to 10 tenths", 46), ("CircuitCells", 346, "not 0 to 60", 47), ("CircuitCellsModel", 11, "packet", 0), ("CircuitCellsModel", 13, "time", 1), ("CircuitCellsModel", 15, "last", 2), ("CircuitCellsModel", 17, "flying", 3), ("CircuitCellsModel", 23, "size", 4), ("CircuitCellsModel", 25, "target", 5), ("CircuitCellsModel", 27, "gain", 6), ("CircuitCellsModel", 29, "every", 7), ("CircuitCellsModel", 31, "offset", 8), ("CircuitCellsModel", 33, "frame", 9), ("CircuitCellsModel", 35, "word", 10), ("CircuitCellsModel", 37, "delay", 11), ("CircuitCellsModel", 39, "lost", 12), ("CircuitCellsModel", 222, "not", 15), ("CircuitCellsModel", 230, "and", 14), ("CircuitCellsModel", 235, "or", 13)]
def nestT : List (String × Nat × MethodName × String) := [("CircuitCells", 9, ⟨"CircuitCells$Reader", "<init>", "()V"⟩, "CircuitCells"), ("CircuitCells$Line", 15, ⟨"CircuitCells$Rule", "<init>", "()V"⟩, "CircuitCells"), ("CircuitCells$Line", 51, ⟨"CircuitCells", "put", "([III)V"⟩, "CircuitCells"), ("CircuitCells", 25, ⟨"CircuitCells$Session", "<init>", "()V"⟩, "CircuitCells"), ("CircuitCells$Session", 11, ⟨"CircuitCells$World", "<init>", "()V"⟩, "CircuitCells"), ("CircuitCells$World", 11, ⟨"CircuitCells$Far", "<init>", "()V"⟩, "CircuitCells"), ("CircuitCells$World", 20, ⟨"CircuitCells$Near", "<init>", "()V"⟩, "CircuitCells"), ("CircuitCells$Near", 11, ⟨"CircuitCells$Buffer", "<init>", "()V"⟩, "CircuitCells"), ("CircuitCells$Near", 20, ⟨"CircuitCells$Log", "<init>", "()V"⟩, "CircuitCells"), ("CircuitCells", 35, ⟨"CircuitCells$Forecast", "<init>", "()V"⟩, "CircuitCells"), ("CircuitCells$Forecast", 11, ⟨"CircuitCells$World", "<init>", "()V"⟩, "CircuitCells"), ("CircuitCells$Reader", 36, ⟨"CircuitCells", "put", "([III)V"⟩, "CircuitCells"), ("CircuitCells$Session", 56, ⟨"CircuitCells", "at", "([II)I"⟩, "CircuitCells"), ("CircuitCells$Session", 60, ⟨"CircuitCells", "put", "([III)V"⟩, "CircuitCells"), ("CircuitCells$Far", 65, ⟨"CircuitCells", "mod", "(II)I"⟩, "CircuitCells"), ("CircuitCells$Rule", 26, ⟨"CircuitCells", "at", "([II)I"⟩, "CircuitCells"), ("CircuitCells$Rule", 22, ⟨"CircuitCells", "put", "([III)V"⟩, "CircuitCells"), ("CircuitCells$Far", 87, ⟨"CircuitCells", "within", "(III)I"⟩, "CircuitCells"), ("CircuitCells$Far", 97, ⟨"CircuitCells", "put", "([III)V"⟩, "CircuitCells"), ("CircuitCells$World", 80, ⟨"CircuitCells", "at", "([II)I"⟩, "CircuitCells"), ("CircuitCells$Far", 101, ⟨"CircuitCells", "at", "([II)I"⟩, "CircuitCells"), ("CircuitCells$Buffer", 59, ⟨"CircuitCells", "mod", "(II)I"⟩, "CircuitCells"), ("CircuitCells$Buffer", 63, ⟨"CircuitCells", "by", "(II)I"⟩, "CircuitCells"), ("CircuitCells$Buffer", 66, ⟨"CircuitCells", "put", "([III)V"⟩, "CircuitCells"), ("CircuitCells$Near", 97, ⟨"CircuitCells", "mod", "(II)I"⟩, "CircuitCells"), ("CircuitCells$Near", 100, ⟨"CircuitCells", "within", "(III)I"⟩, "CircuitCells"), ("CircuitCells$Log", 44, ⟨"CircuitCells", "mod", "(II)I"⟩, "CircuitCells"), ("CircuitCells$Log", 47, ⟨"CircuitCells", "put", "([III)V"⟩, "CircuitCells"), ("CircuitCells$Buffer", 75, ⟨"CircuitCells", "at", "([II)I"⟩, "CircuitCells"), ("CircuitCells$Log", 55, ⟨"CircuitCells", "at", "([II)I"⟩, "CircuitCells"), ("CircuitCells$Line", 58, ⟨"CircuitCells", "mod", "(II)I"⟩, "CircuitCells"), ("CircuitCells$Line", 62, ⟨"CircuitCells", "at", "([II)I"⟩, "CircuitCells"), ("CircuitCells$Far", 58, ⟨"CircuitCells", "copyRow", "([I[I)V"⟩, "CircuitCells"), ("CircuitCells$Buffer", 49, ⟨"CircuitCells", "copyRow", "([I[I)V"⟩, "CircuitCells"), ("CircuitCells$Log", 34, ⟨"CircuitCells", "copyRow", "([I[I)V"⟩, "CircuitCells"), ("CircuitCells$Session", 52, ⟨"CircuitCells", "copyRow", "([I[I)V"⟩, "CircuitCells"), ("CircuitCells$Reader", 67, ⟨"CircuitCells", "at", "([II)I"⟩, "CircuitCells"), ("CircuitCells$Near", 86, ⟨"CircuitCells", "by", "(II)I"⟩, "CircuitCells"), ("CircuitCells$Forecast", 145, ⟨"CircuitCells", "put", "([III)V"⟩, "CircuitCells"), ("CircuitCells$Forecast", 171, ⟨"CircuitCells", "at", "([II)I"⟩, "CircuitCells"), ("CircuitCells$Forecast", 206, ⟨"CircuitCells", "mod", "(II)I"⟩, "CircuitCells")]
def exC : List String := ["java/lang/IllegalArgumentException", "java/util/NoSuchElementException"]
def exDc : List String := ["java/lang/RuntimeException", "java/lang/Exception", "java/lang/Throwable"]
def SX (U : State) : Prop := (∀ q ∈ exC, va_Nw (.castable q q) U) ∧ (∀ q ∈ exDc, va_Nw (.declares ⟨q, "<init>", "(Ljava/lang/String;)V"⟩) U) ∧ va_Nc "java/lang/IllegalArgumentException" "java/util/NoSuchElementException" U
/-- the sixteen strings of the model, then the class's own sixteen -/
def SS (adK adV : Nat → Nat) (A : Nat → Prop) (U : State) (H : Heap) : Prop := ∀ i : Nat, i < 32 → va_O "java/lang/String" (adK i) A U H ∧ va_OF "java/lang/String" "coder" "B" (.int 0) (adK i) A U H ∧ va_OF "java/lang/String" "value" "[B" (.ref (adV i)) (adK i) A U H ∧ va_T .byte (adV i) (sLen.getD i 0) (fun j => .int ((sByt.getD i []).getD j 0)) A U H
theorem SS.moved {adK adV : Nat → Nat} {A : Nat → Prop} {u U : State} {H : Heap} (h : SS adK adV A u H) (hvm : u.vm.Alike U.vm) : SS adK adV A U H := fun i hi => ⟨va_O.moved hvm (h i hi).1, va_OF.moved hvm (h i hi).2.1, va_OF.moved hvm (h i hi).2.2.1, va_T.moved hvm (h i hi).2.2.2⟩
theorem SS.kept {adK adV : Nat → Nat} {A : Nat → Prop} {U : State} {H H1 : Heap} (h : SS adK adV A U H) (hq : ∀ a : Nat, a < H.size → ¬ A a → H1[a]? = H[a]?) : SS adK adV A U H1 := fun i hi => ⟨(h i hi).1.kept hq, (h i hi).2.1.kept hq, (h i hi).2.2.1.kept hq, (h i hi).2.2.2.kept hq⟩
theorem SS.narrow {adK adV : Nat → Nat} {A B : Nat → Prop} {U : State} {H : Heap} (h : SS adK adV A U H) (hAB : ∀ q, B q → A q) : SS adK adV B U H := fun i hi => ⟨(h i hi).1.narrow hAB, (h i hi).2.1.narrow hAB, (h i hi).2.2.1.narrow hAB, (h i hi).2.2.2.narrow hAB⟩
theorem SS.recv {s : State} {H : Heap} {locs : List Loc} {adK adV : Nat → Nat} {A : Nat → Prop} {i : Nat} (hE : SS adK adV A s s.heap) (hi : i < 32) (hS : va_S A s.heap H locs) : ∃ cell : Cell, H[adK i]? = some cell ∧ cell.vm.isStatics = false ∧ s.vm.findClass "java/lang/String" = some cell.cls := by
  obtain ⟨cell, h1, h2, h3, -⟩ := (hE i hi).1.kept hS.2.1
  exact ⟨cell, h1, h2, h3⟩
def SK (G : Ctx) (sz : Nat) (U : State) (H : Heap) : Prop := SS (gaK G) (gaV G) (gA G sz) U H ∧ (∀ q ∈ strT, vk_R q.1 q.2.1 q.2.2.1 (gaK G q.2.2.2) U) ∧ vx_Zq Bundle.tN "UNASSIGNED_STACK" Bundle.steD (gA G sz) U H ∧ vx_Zq Bundle.tN "SUPPRESSED_SENTINEL" Bundle.listD (gA G sz) U H ∧ (∀ q ∈ nestT, va_Nw (.methodLinkNest q.1 q.2.1 q.2.2.1 q.2.2.2) U) ∧ va_Z "java/lang/String" "COMPACT_STRINGS" "Z" (.int 1) (gA G sz) U H ∧ va_Zq "jdk/internal/util/Preconditions" "SIOOBE_FORMATTER" "Ljava/util/function/BiFunction;" (gA G sz) U H ∧ SX U
def gw : List Cond := lw_tbl.filter goodWord
def wsy (y : MethodName) (b : ByteArray) (mL : Nat) (ret : Option FieldType) : List Cond := Cond.code y b mL ret :: gw
def rmv (F Lo mc ms : Nat) : Room := { frames := F, cells := mc, slots := ms, locals := Lo }
def Pcm (G : Ctx) (M : Mem) (sz : Nat) (U : State) : Prop := U.heap.size = sz ∧ va_P (gD G) vwCl (wsM G M) U.heap ∧ va_K (gD G) vwCl (gT G) U ∧ SK G sz U U.heap
def QcM (G : Ctx) (rv : Option Value) (M' : Mem) (sz : Nat) : Array Value → State → Outcome → State → Prop := fun _ st o t => (o = .returned rv ∧ va_P (gD G) vwCl (wsM G M') t.heap) ∧ va_F (gA G sz) st t
def Ct (G : Ctx) (y : MethodName) (b : ByteArray) (mL : Nat) (ret : Option FieldType) (F Lo : Nat) (av : List Value) (M : Mem) (rv : Option Value) (M' : Mem) : Prop :=
  ∀ sz, Met (gl G) y (wsy y b mL ret) (rmv F Lo 0 0) (va_Pc av (Pcm G M sz)) (QcM G rv M' sz) 0 0 (gA G sz)
def WX (G : Ctx) (p : Program) (e : Env) (R : Room) (s : State) (m : MethodId) (args : Array Value) (below : List Frame) (meth : Method) (c : Code) (nL kc ks : Nat) (Q : State → Prop) : Mem → Nat → List (Nat × Value) → List Value → Prop := fun M pc ls st =>
  ∀ (H : Heap) (locs : List Loc) (lsA : Array Slot), va_P (gD G) vwCl (wsM G M) H → va_S (gA G s.heap.size) s.heap H locs → lv_has lsA nL ls → W p (gl G) e R s m args below meth c H locs kc ks Q (F0 m pc lsA st)
def Rb (G : Ctx) (cc : ByteArray) (own : String) (nL F Lo : Nat) (w : Mem → Nat → List (Nat × Value) → List Value → Prop) : Prop :=
  WFG G ∧ ∃ (p : Program) (e : Env) (R : Room) (s : State) (m : MethodId) (args : Array Value) (below : List Frame) (meth : Method) (c : Code) (kc ks : Nat) (Q : State → Prop),
    (p.tables.exec = Jvm.exec ∧ c.code = cc ∧ c.maxLocals = nL ∧ s.vm.findClass own = some m.cls ∧ (∀ w ∈ gw, w.before args s = true) ∧ va_K (gD G) vwCl (gT G) s ∧ SK G s.heap.size s s.heap ∧ F ≤ R.frames ∧ Lo ≤ R.locals ∧ kc ≤ R.cells ∧ ks ≤ R.slots) ∧ w = WX G p e R s m args below meth c nL kc ks Q

theorem nflT : ∀ ci, ci < 12 → (vwCl.getD ci ("", fun _ => ("", "", "", false), 0)).2.2 = nfl ci := by decide +kernel
def TXa : List u_T := [TX0, TX1, TX2, TX3, TX4, TX5, TX6, TX7, TX8, TX9, TX10, TX11]

theorem gin {w : Cond} (i : Nat) (h : lw_tbl[i]? = some w) (g : goodWord w = true) : w ∈ gw := List.mem_filter.mpr ⟨List.mem_of_getElem? h, g⟩
theorem good_gw {y : MethodName} {b : ByteArray} {mL : Nat} {ret : Option FieldType} (h : Cond.code y b mL ret ∈ gw) : GoodIn gw (wsy y b mL ret) := fun w hw => by
  rcases List.mem_cons.mp hw with rfl | h2
  · exact ⟨h, good_of_word (List.mem_filter.mp h).2⟩
  · exact ⟨h2, good_of_word (List.mem_filter.mp h2).2⟩
theorem inU_of {C : String} {T : u_T} {N : Nat} (ps : List Nat) (h : ∀ k, k < N → lw_tbl[ps.getD k 0]? = some (u_lay C T k)) (g : ∀ k, k < N → goodWord (u_lay C T k) = true) : ∀ w ∈ u_ws C T N, w ∈ gw := by
  intro w hw
  obtain ⟨k, hk, rfl⟩ := List.mem_map.mp hw
  exact gin _ (h k (List.mem_range.mp hk)) (g k (List.mem_range.mp hk))

theorem inX0 : ∀ w ∈ u_ws RX0 TX0 11, w ∈ gw := inU_of [377, 379, 381, 383, 385, 387, 389, 391, 393, 395, 397] (by decide +kernel) (by decide +kernel)
theorem inX1 : ∀ w ∈ u_ws RX1 TX1 14, w ∈ gw := inU_of [318, 320, 322, 324, 326, 328, 330, 332, 334, 336, 338, 340, 342, 344] (by decide +kernel) (by decide +kernel)
theorem inX2 : ∀ w ∈ u_ws RX2 TX2 9, w ∈ gw := inU_of [563, 565, 567, 569, 571, 573, 575, 577, 579] (by decide +kernel) (by decide +kernel)
theorem inX3 : ∀ w ∈ u_ws RX3 TX3 11, w ∈ gw := inU_of [202, 204, 206, 208, 210, 212, 214, 216, 218, 220, 222] (by decide +kernel) (by decide +kernel)
theorem inX4 : ∀ w ∈ u_ws RX4 TX4 7, w ∈ gw := inU_of [420, 422, 424, 426, 428, 430, 432] (by decide +kernel) (by decide +kernel)
theorem inX5 : ∀ w ∈ u_ws RX5 TX5 12, w ∈ gw := inU_of [469, 471, 473, 475, 477, 479, 481, 483, 485, 487, 489, 491] (by decide +kernel) (by decide +kernel)
theorem inX6 : ∀ w ∈ u_ws RX6 TX6 11, w ∈ gw := inU_of [238, 240, 242, 244, 246, 248, 250, 252, 254, 256, 258] (by decide +kernel) (by decide +kernel)
theorem inX7 : ∀ w ∈ u_ws RX7 TX7 3, w ∈ gw := inU_of [143, 145, 147] (by decide +kernel) (by decide +kernel)
theorem inX8 : ∀ w ∈ u_ws RX8 TX8 9, w ∈ gw := inU_of [523, 525, 527, 529, 531, 533, 535, 537, 539] (by decide +kernel) (by decide +kernel)
theorem inX9 : ∀ w ∈ u_ws RX9 TX9 3, w ∈ gw := inU_of [502, 504, 506] (by decide +kernel) (by decide +kernel)
theorem inX10 : ∀ w ∈ u_ws RX10 TX10 6, w ∈ gw := inU_of [623, 625, 627, 629, 631, 633] (by decide +kernel) (by decide +kernel)
theorem inX11 : ∀ w ∈ u_ws RX11 TX11 52, w ∈ gw := inU_of [1479, 1481, 1483, 1485, 1487, 1489, 1491, 1493, 1495, 1497, 1499, 1501, 1503, 1505, 1507, 1509, 1511, 1513, 1515, 1517, 1519, 1521, 1523, 1525, 1527, 1529, 1531, 1533, 1535, 1537, 1539, 1541, 1543, 1545, 1547, 1549, 1551, 1553, 1555, 1557, 1559, 1561, 1563, 1565, 1567, 1569, 1571, 1573, 1575, 1577, 1579, 1581] (by decide +kernel) (by decide +kernel)
def CKd (C : String) (T : u_T) (N : Nat) : Prop := (∀ w ∈ u_ws C T N, w ∈ gw) ∧ (∃ ty0 : Nat → FieldType, ∀ k, k < N → parseFieldDescriptor (T k).2.2.1 = some (ty0 k)) ∧ (∀ a, a < N → ∀ b, b < N → a ≠ b → (T a).2.1 ≠ (T b).2.1)
theorem ckd : ∀ q ∈ vwCl, CKd q.1 q.2.1 q.2.2 := by
  intro q hq
  simp only [vwCl, List.mem_cons, List.not_mem_nil, or_false] at hq
  rcases hq with rfl | rfl | rfl | rfl | rfl | rfl | rfl | rfl | rfl | rfl | rfl | rfl
  · exact ⟨inX0, ⟨tyX0, tyX0_ok⟩, nmX0⟩
  · exact ⟨inX1, ⟨tyX1, tyX1_ok⟩, nmX1⟩
  · exact ⟨inX2, ⟨tyX2, tyX2_ok⟩, nmX2⟩
  · exact ⟨inX3, ⟨tyX3, tyX3_ok⟩, nmX3⟩
  · exact ⟨inX4, ⟨tyX4, tyX4_ok⟩, nmX4⟩
  · exact ⟨inX5, ⟨tyX5, tyX5_ok⟩, nmX5⟩
  · exact ⟨inX6, ⟨tyX6, tyX6_ok⟩, nmX6⟩
  · exact ⟨inX7, ⟨tyX7, tyX7_ok⟩, nmX7⟩
  · exact ⟨inX8, ⟨tyX8, tyX8_ok⟩, nmX8⟩
  · exact ⟨inX9, ⟨tyX9, tyX9_ok⟩, nmX9⟩
  · exact ⟨inX10, ⟨tyX10, tyX10_ok⟩, nmX10⟩
  · exact ⟨inX11, ⟨tyX11, tyX11_ok⟩, nmX11⟩
theorem ckc {ci : Nat} {C : String} {T : u_T} {N : Nat} (h : vwCl[ci]? = some (C, T, N)) : CKd C T N := ckd (C, T, N) (List.mem_of_getElem? h)
def FL (own : String) (idx ci k : Nat) : Prop := ∃ C T N, vwCl[ci]? = some (C, T, N) ∧ N = nfl ci ∧ k < N ∧ Cond.fieldLink own idx (T k).1 (T k).2.1 (T k).2.2.1 ∈ gw
def FP (own : String) (idx ci k : Nat) (ty : FieldType) : Prop := ∃ C T N, vwCl[ci]? = some (C, T, N) ∧ N = nfl ci ∧ k < N ∧ Cond.fieldLink own idx (T k).1 (T k).2.1 (T k).2.2.1 ∈ gw ∧ (T k).2.2.2 = false ∧ parseFieldDescriptor (T k).2.2.1 = some ty
theorem wsM_get {G : Ctx} {M : Mem} {a : Nat} (h : a ∈ gL G) : ∃ q0 : Nat, (wsM G M)[q0]? = some (a, cellM G M a) := va_pl_get (X := []) (f := cellM G M) h
theorem vaD_of {G : Ctx} {M : Mem} {A : Nat → Prop} (hn : (gL G).Nodup) (hA : ∀ a ∈ gL G, A a) : va_D A (wsM G M) := by
  have key : ∀ (k : Nat) (q : Nat × va_E), (wsM G M)[k]? = some q → (gL G)[k]? = some q.1 := by
    intro k q h
    simp only [wsM, va_pl, List.getElem?_map] at h
    cases hb : (gL G)[k]? with
    | none => rw [hb] at h; cases h
    | some b => rw [hb] at h; cases h; rfl
  refine ⟨fun i j p q hi hj e => ?_, fun k q hk => hA _ (List.mem_of_getElem? (key k q hk))⟩
  have h1 := key i p hi
  have h2 := key j q hj
  rw [← e] at h2
  exact (List.getElem?_inj (List.getElem?_eq_some_iff.mp h1).1 hn).mp (h1.trans h2.symm)
theorem wsM_set {G : Ctx} {M M' : Mem} {a q0 : Nat} {e : va_E} (hn : (gL G).Nodup) (ha : a ∈ gL G) (hq : (wsM G M)[q0]? = some (a, cellM G M a)) (he : cellM G M' a = e) (ho : ∀ b ∈ gL G, b ≠ a → cellM G M' b = cellM G M b) : (wsM G M).set q0 (a, e) = wsM G M' := by
  have h := va_pl_set (X := []) (f := cellM G M) (e := e) (vaD_of (A := fun _ => True) hn (fun _ _ => trivial)) ha hq
  refine Eq.trans h (List.map_congr_left fun b hbL => ?_)
  by_cases hb : b = a
  · subst hb
    rw [va_up_self, he]
  · rw [va_up_ne _ _ hb, ho b hbL hb]
theorem fl_get {M : Mem} {a ci k : Nat} (h : k < nfl ci) : (flds M a ci)[k]? = some (fvl M a ci k) := by simp [flds, h]
theorem fl_set {M : Mem} {a ci k : Nat} {v : Int32} (hk : (fkd ci k).1 = 0) : (flds M a ci).set k (.int v) = flds (wi M a k v) a ci := by
  apply List.ext_getElem?
  intro j
  by_cases hj : j = k
  · subst hj
    by_cases hl : j < nfl ci
    · rw [List.getElem?_set_self (by simpa [flds] using hl), fl_get hl]
      simp [fvl, hk, wi]
    · have h1 : (flds M a ci).length ≤ j := by simp [flds]; omega
      have h2 : (flds (wi M a j v) a ci).length ≤ j := by simp [flds]; omega
      rw [List.getElem?_eq_none (by simpa using h1), List.getElem?_eq_none h2]
  · rw [List.getElem?_set_ne (Ne.symm hj)]
    by_cases hl : j < nfl ci
    · rw [fl_get hl, fl_get hl]
      simp [fvl, wi, hj]
    · have h1 : (flds M a ci).length ≤ j := by simp [flds]; omega
      have h2 : (flds (wi M a k v) a ci).length ≤ j := by simp [flds]; omega
      rw [List.getElem?_eq_none h1, List.getElem?_eq_none h2]
theorem cellM_wi_ne {G : Ctx} {M : Mem} {a k b : Nat} {v : Int32} (h : b ≠ a) : cellM G (wi M a k v) b = cellM G M b := by
  have h1 : (wi M a k v).1 b = M.1 b := by funext j; simp [wi, h]
  have h2 : ∀ ci, flds (wi M a k v) b ci = flds M b ci := fun ci => by
    simp only [flds]
    apply List.map_congr_left
    intro j _
    simp only [fvl, h1]
    rfl
  unfold cellM
  rw [h1]
  simp only [h2]
  rfl
theorem wi_row {M : Mem} {a k : Nat} {v : Int32} : (wi M a k v).1 a = upd (M.1 a) k v := by
  funext j
  simp [wi, upd]
theorem cellM_wl_ne {G : Ctx} {M : Mem} {a k b : Nat} {v : Int64} (h : b ≠ a) : cellM G (wl M a k v) b = cellM G M b := by
  have h1 : (wl M a k v).2.1 b = M.2.1 b := by funext j; simp [wl, h]
  unfold cellM
  rw [h1]
  rfl

section RB
variable {G : Ctx} {cc : ByteArray} {own : String} {nL F Lo : Nat} {w : Mem → Nat → List (Nat × Value) → List Value → Prop} {M : Mem} {pc : Nat} {ls : List (Nat × Value)} {st : List Value}
theorem Rb.wf (h : Rb G cc own nL F Lo w) : WFG G := h.1
theorem Rb.clo (h : Rb G cc own nL F Lo w) (i : Nat) {ci dl : Nat} {t : Nat × Nat} {a : Nat} (ha : hs G a (0, ci)) (hq : cloT[i]? = some (ci, dl, t)) : hs G (a + dl) t := h.1.2.1 (ci, dl, t) (List.mem_of_getElem? hq) a ha
theorem WFG.clo (h : WFG G) (i : Nat) {ci dl : Nat} {t : Nat × Nat} {a : Nat} (ha : hs G a (0, ci)) (hq : cloT[i]? = some (ci, dl, t)) : hs G (a + dl) t := h.2.1 (ci, dl, t) (List.mem_of_getElem? hq) a ha
theorem Rb.get (h : Rb G cc own nL F Lo w) {a ci k idx : Nat} {v : Value} (ha : hs G a (0, ci)) (hf : FL own idx ci k) (d : decode cc pc = .ok (.getfield idx, 3)) (hv : fvl M a ci k = v) (kk : w M (pc + 3) ls (v :: st)) : w M pc ls (.ref a :: st) := by
  obtain ⟨hG, p, e, R, s, m, args, below, meth, c, kc, ks, Q, ⟨hx, hb, hml, hown, hts, hK, hSK, hF, hLo, hkc, hks⟩, rfl⟩ := h
  intro H locs lsA hP hS hl
  obtain ⟨q0, hq⟩ := wsM_get (M := M) ha.1
  obtain ⟨C, T, N, hc, hN, hk, hlink⟩ := hf
  have hq' : (wsM G M)[q0]? = some (a, .inr (ci, flds M a ci)) := by rw [hq]; simp [cellM, ha.2]
  subst hv
  exact va_get (C := C) (T := T) (N := N) hx hb hts (ckc hc).1 hown hK hP q0 hq' hc k hk (hts _ hlink) (fun x hx => hx) (fl_get (by omega)) d (kk H locs lsA hP hS hl)
theorem Rb.put (h : Rb G cc own nL F Lo w) {a ci k idx : Nat} {v : Int32} {ty : FieldType} (ha : hs G a (0, ci)) (hf : FP own idx ci k ty) (hk0 : (fkd ci k).1 = 0) (d : decode cc pc = .ok (.putfield idx, 3)) (hn : narrow ty (.int v) = .int v) (hfit : fits ty (.int v) = true) (kk : w (wi M a k v) (pc + 3) ls st) : w M pc ls (.int v :: .ref a :: st) := by
  obtain ⟨hG, p, e, R, s, m, args, below, meth, c, kc, ks, Q, ⟨hx, hb, hml, hown, hts, hK, hSK, hF, hLo, hkc, hks⟩, rfl⟩ := h
  intro H locs lsA hP hS hl
  obtain ⟨q0, hq⟩ := wsM_get (M := M) ha.1
  obtain ⟨C, T, N, hc, hN, hk, hlink, hfin, hd⟩ := hf
  obtain ⟨h1, ⟨ty0, h2⟩, h3⟩ := ckc hc
  have hq' : (wsM G M)[q0]? = some (a, .inr (ci, flds M a ci)) := by rw [hq]; simp [cellM, ha.2]
  refine va_put (C := C) (T := T) (N := N) hx hb hts h1 ty0 h2 h3 hown hK hP (vaD_of hG.1 (fun x hx => Or.inl hx)) hS q0 hq' hc k hk (hts _ hlink) (fun x hx => hx) hfin hd hn hfit (by simp [flds]; omega) d (fun H1 locs1 hP1 _ hS1 => ?_)
  rw [fl_set hk0, wsM_set (M' := wi M a k v) hG.1 ha.1 hq (by simp [cellM, ha.2]) (fun b _ hb => cellM_wi_ne hb)] at hP1
  exact kk H1 locs1 lsA hP1 hS1 hl
theorem Rb.iald (h : Rb G cc own nL F Lo w) {a n : Nat} {i : Int32} (ha : hs G a (1, n)) (hi : 0 ≤ i.toInt ∧ i.toInt < n) (d : decode cc pc = .ok (.iaload, 1)) (kk : w M (pc + 1) ls (.int (M.1 a i.toNatClampNeg) :: st)) : w M pc ls (.int i :: .ref a :: st) := by
  obtain ⟨hG, p, e, R, s, m, args, below, meth, c, kc, ks, Q, ⟨hx, hb, hml, hown, hts, hK, hSK, hF, hLo, hkc, hks⟩, rfl⟩ := h
  intro H locs lsA hP hS hl
  obtain ⟨q0, hq⟩ := wsM_get (M := M) ha.1
  have hq' : (wsM G M)[q0]? = some (a, .inl (gcA G 0, (n, .inl (M.1 a)))) := by rw [hq]; simp [cellM, ha.2]
  exact va_iald hx hb hK hP q0 0 hq' rfl (vp_in_iff.mpr hi) d (kk H locs lsA hP hS hl)
theorem Rb.iast (h : Rb G cc own nL F Lo w) {a n : Nat} {i v : Int32} (ha : hs G a (1, n)) (hi : 0 ≤ i.toInt ∧ i.toInt < n) (d : decode cc pc = .ok (.iastore, 1)) (kk : w (wi M a i.toNatClampNeg v) (pc + 1) ls st) : w M pc ls (.int v :: .int i :: .ref a :: st) := by
  obtain ⟨hG, p, e, R, s, m, args, below, meth, c, kc, ks, Q, ⟨hx, hb, hml, hown, hts, hK, hSK, hF, hLo, hkc, hks⟩, rfl⟩ := h
  intro H locs lsA hP hS hl
  obtain ⟨q0, hq⟩ := wsM_get (M := M) ha.1
  have hq' : (wsM G M)[q0]? = some (a, .inl (gcA G 0, (n, .inl (M.1 a)))) := by rw [hq]; simp [cellM, ha.2]
  refine va_iast hx hb hK hP (vaD_of hG.1 (fun x hx => Or.inl hx)) hS q0 0 hq' rfl (vp_in_iff.mpr hi) d (fun H1 locs1 hP1 _ hS1 => ?_)
  rw [wsM_set (M' := wi M a i.toNatClampNeg v) hG.1 ha.1 hq (by simp [cellM, ha.2, wi_row]) (fun b _ hb => cellM_wi_ne hb)] at hP1
  exact kk H1 locs1 lsA hP1 hS1 hl
theorem Rb.zald (h : Rb G cc own nL F Lo w) {a n : Nat} {i : Int32} (ha : hs G a (2, n)) (hi : 0 ≤ i.toInt ∧ i.toInt < n) (d : decode cc pc = .ok (.baload, 1)) (kk : w M (pc + 1) ls (.int (M.1 a i.toNatClampNeg) :: st)) : w M pc ls (.int i :: .ref a :: st) := by
  obtain ⟨hG, p, e, R, s, m, args, below, meth, c, kc, ks, Q, ⟨hx, hb, hml, hown, hts, hK, hSK, hF, hLo, hkc, hks⟩, rfl⟩ := h
  intro H locs lsA hP hS hl
  obtain ⟨q0, hq⟩ := wsM_get (M := M) ha.1
  have hq' : (wsM G M)[q0]? = some (a, .inl (gcA G 1, (n, .inl (M.1 a)))) := by rw [hq]; simp [cellM, ha.2]
  exact va_zald hx hb hK hP q0 1 hq' rfl (vp_in_iff.mpr hi) d (kk H locs lsA hP hS hl)
theorem Rb.alen (h : Rb G cc own nL F Lo w) {a n : Nat} {v : Int32} (ha : hs G a (1, n)) (hv : Int32.ofNat n = v) (d : decode cc pc = .ok (.arraylength, 1)) (kk : w M (pc + 1) ls (.int v :: st)) : w M pc ls (.ref a :: st) := by
  obtain ⟨hG, p, e, R, s, m, args, below, meth, c, kc, ks, Q, ⟨hx, hb, hml, hown, hts, hK, hSK, hF, hLo, hkc, hks⟩, rfl⟩ := h
  intro H locs lsA hP hS hl
  obtain ⟨q0, hq⟩ := wsM_get (M := M) ha.1
  have hq' : (wsM G M)[q0]? = some (a, .inl (gcA G 0, (n, .inl (M.1 a)))) := by rw [hq]; simp [cellM, ha.2]
  exact va_alen (x := (n, .inl (M.1 a))) hx hb hK hP q0 0 hq' (ty := .int) rfl hv d (kk H locs lsA hP hS hl)

theorem Rb.iadd (h : Rb G cc own nL F Lo w) {x y : Int32} (d : decode cc pc = .ok (.iadd, 1)) (kk : w M (pc + 1) ls (.int (x + y) :: st)) : w M pc ls (.int y :: .int x :: st) := by
  obtain ⟨hG, p, e, R, s, m, args, below, meth, c, kc, ks, Q, ⟨hx, hb, hml, hown, hts, hK, hSK, hF, hLo, hkc, hks⟩, rfl⟩ := h
  intro H locs lsA hP hS hl
  exact lv_iadd hx hb d (kk H locs lsA hP hS hl)
theorem Rb.isub (h : Rb G cc own nL F Lo w) {x y : Int32} (d : decode cc pc = .ok (.isub, 1)) (kk : w M (pc + 1) ls (.int (x - y) :: st)) : w M pc ls (.int y :: .int x :: st) := by
  obtain ⟨hG, p, e, R, s, m, args, below, meth, c, kc, ks, Q, ⟨hx, hb, hml, hown, hts, hK, hSK, hF, hLo, hkc, hks⟩, rfl⟩ := h
  intro H locs lsA hP hS hl
  exact lv_isub hx hb d (kk H locs lsA hP hS hl)
theorem Rb.imul (h : Rb G cc own nL F Lo w) {x y : Int32} (d : decode cc pc = .ok (.imul, 1)) (kk : w M (pc + 1) ls (.int (x * y) :: st)) : w M pc ls (.int y :: .int x :: st) := by
  obtain ⟨hG, p, e, R, s, m, args, below, meth, c, kc, ks, Q, ⟨hx, hb, hml, hown, hts, hK, hSK, hF, hLo, hkc, hks⟩, rfl⟩ := h
  intro H locs lsA hP hS hl
  exact lv_imul hx hb d (kk H locs lsA hP hS hl)
theorem Rb.iand (h : Rb G cc own nL F Lo w) {x y : Int32} (d : decode cc pc = .ok (.iand, 1)) (kk : w M (pc + 1) ls (.int (x &&& y) :: st)) : w M pc ls (.int y :: .int x :: st) := by
  obtain ⟨hG, p, e, R, s, m, args, below, meth, c, kc, ks, Q, ⟨hx, hb, hml, hown, hts, hK, hSK, hF, hLo, hkc, hks⟩, rfl⟩ := h
  intro H locs lsA hP hS hl
  exact lv_iand hx hb d (kk H locs lsA hP hS hl)
theorem Rb.ior (h : Rb G cc own nL F Lo w) {x y : Int32} (d : decode cc pc = .ok (.ior, 1)) (kk : w M (pc + 1) ls (.int (x ||| y) :: st)) : w M pc ls (.int y :: .int x :: st) := by
  obtain ⟨hG, p, e, R, s, m, args, below, meth, c, kc, ks, Q, ⟨hx, hb, hml, hown, hts, hK, hSK, hF, hLo, hkc, hks⟩, rfl⟩ := h
  intro H locs lsA hP hS hl
  exact lv_ior hx hb d (kk H locs lsA hP hS hl)
theorem Rb.ixor (h : Rb G cc own nL F Lo w) {x y : Int32} (d : decode cc pc = .ok (.ixor, 1)) (kk : w M (pc + 1) ls (.int (x ^^^ y) :: st)) : w M pc ls (.int y :: .int x :: st) := by
  obtain ⟨hG, p, e, R, s, m, args, below, meth, c, kc, ks, Q, ⟨hx, hb, hml, hown, hts, hK, hSK, hF, hLo, hkc, hks⟩, rfl⟩ := h
  intro H locs lsA hP hS hl
  exact lv_ixor hx hb d (kk H locs lsA hP hS hl)
theorem Rb.ishl (h : Rb G cc own nL F Lo w) {x y : Int32} (d : decode cc pc = .ok (.ishl, 1)) (kk : w M (pc + 1) ls (.int (x <<< (y &&& 31)) :: st)) : w M pc ls (.int y :: .int x :: st) := by
  obtain ⟨hG, p, e, R, s, m, args, below, meth, c, kc, ks, Q, ⟨hx, hb, hml, hown, hts, hK, hSK, hF, hLo, hkc, hks⟩, rfl⟩ := h
  intro H locs lsA hP hS hl
  exact lv_ishl hx hb d (kk H locs lsA hP hS hl)
theorem Rb.ishr (h : Rb G cc own nL F Lo w) {x y : Int32} (d : decode cc pc = .ok (.ishr, 1)) (kk : w M (pc + 1) ls (.int (x >>> (y &&& 31)) :: st)) : w M pc ls (.int y :: .int x :: st) := by
  obtain ⟨hG, p, e, R, s, m, args, below, meth, c, kc, ks, Q, ⟨hx, hb, hml, hown, hts, hK, hSK, hF, hLo, hkc, hks⟩, rfl⟩ := h
  intro H locs lsA hP hS hl
  exact lv_ishr hx hb d (kk H locs lsA hP hS hl)
theorem Rb.iushr (h : Rb G cc own nL F Lo w) {x y : Int32} (d : decode cc pc = .ok (.iushr, 1)) (kk : w M (pc + 1) ls (.int (x.toUInt32 >>> (y.toUInt32 &&& Int32.toUInt32 31)).toInt32 :: st)) : w M pc ls (.int y :: .int x :: st) := by
  obtain ⟨hG, p, e, R, s, m, args, below, meth, c, kc, ks, Q, ⟨hx, hb, hml, hown, hts, hK, hSK, hF, hLo, hkc, hks⟩, rfl⟩ := h
  intro H locs lsA hP hS hl
  exact lv_iushr hx hb d rfl (kk H locs lsA hP hS hl)
theorem Rb.idiv (h : Rb G cc own nL F Lo w) {x y : Int32} (hy : ¬ y = 0) (d : decode cc pc = .ok (.idiv, 1)) (kk : w M (pc + 1) ls (.int (x / y) :: st)) : w M pc ls (.int y :: .int x :: st) := by
  obtain ⟨hG, p, e, R, s, m, args, below, meth, c, kc, ks, Q, ⟨hx, hb, hml, hown, hts, hK, hSK, hF, hLo, hkc, hks⟩, rfl⟩ := h
  intro H locs lsA hP hS hl
  exact lv_idiv hx hb d hy (kk H locs lsA hP hS hl)
theorem Rb.irem (h : Rb G cc own nL F Lo w) {x y : Int32} (hy : ¬ y = 0) (d : decode cc pc = .ok (.irem, 1)) (kk : w M (pc + 1) ls (.int (x - x / y * y) :: st)) : w M pc ls (.int y :: .int x :: st) := by
  obtain ⟨hG, p, e, R, s, m, args, below, meth, c, kc, ks, Q, ⟨hx, hb, hml, hown, hts, hK, hSK, hF, hLo, hkc, hks⟩, rfl⟩ := h
  intro H locs lsA hP hS hl
  exact lv_irem hx hb d hy (kk H locs lsA hP hS hl)
theorem Rb.ineg (h : Rb G cc own nL F Lo w) {x : Int32} (d : decode cc pc = .ok (.ineg, 1)) (kk : w M (pc + 1) ls (.int (-x) :: st)) : w M pc ls (.int x :: st) := by
  obtain ⟨hG, p, e, R, s, m, args, below, meth, c, kc, ks, Q, ⟨hx, hb, hml, hown, hts, hK, hSK, hF, hLo, hkc, hks⟩, rfl⟩ := h
  intro H locs lsA hP hS hl
  exact lv_ineg hx hb d (kk H locs lsA hP hS hl)
theorem Rb.i2l (h : Rb G cc own nL F Lo w) {x : Int32} (d : decode cc pc = .ok (.i2l, 1)) (kk : w M (pc + 1) ls (.long x.toInt64 :: st)) : w M pc ls (.int x :: st) := by
  obtain ⟨hG, p, e, R, s, m, args, below, meth, c, kc, ks, Q, ⟨hx, hb, hml, hown, hts, hK, hSK, hF, hLo, hkc, hks⟩, rfl⟩ := h
  intro H locs lsA hP hS hl
  exact lv_i2l hx hb d rfl (kk H locs lsA hP hS hl)
theorem Rb.lor (h : Rb G cc own nL F Lo w) {x y : Int64} (d : decode cc pc = .ok (.lor, 1)) (kk : w M (pc + 1) ls (.long (x ||| y) :: st)) : w M pc ls (.long y :: .long x :: st) := by
  obtain ⟨hG, p, e, R, s, m, args, below, meth, c, kc, ks, Q, ⟨hx, hb, hml, hown, hts, hK, hSK, hF, hLo, hkc, hks⟩, rfl⟩ := h
  intro H locs lsA hP hS hl
  exact lv_lor hx hb d (kk H locs lsA hP hS hl)
theorem Rb.land (h : Rb G cc own nL F Lo w) {x y : Int64} (d : decode cc pc = .ok (.land, 1)) (kk : w M (pc + 1) ls (.long (x &&& y) :: st)) : w M pc ls (.long y :: .long x :: st) := by
  obtain ⟨hG, p, e, R, s, m, args, below, meth, c, kc, ks, Q, ⟨hx, hb, hml, hown, hts, hK, hSK, hF, hLo, hkc, hks⟩, rfl⟩ := h
  intro H locs lsA hP hS hl
  exact lv_land hx hb d (kk H locs lsA hP hS hl)
theorem Rb.lshl (h : Rb G cc own nL F Lo w) {x : Int64} {y : Int32} (d : decode cc pc = .ok (.lshl, 1)) (kk : w M (pc + 1) ls (.long (x <<< (y.toInt64 &&& 63)) :: st)) : w M pc ls (.int y :: .long x :: st) := by
  obtain ⟨hG, p, e, R, s, m, args, below, meth, c, kc, ks, Q, ⟨hx, hb, hml, hown, hts, hK, hSK, hF, hLo, hkc, hks⟩, rfl⟩ := h
  intro H locs lsA hP hS hl
  exact lv_lshl hx hb d rfl (kk H locs lsA hP hS hl)
theorem Rb.lshr (h : Rb G cc own nL F Lo w) {x : Int64} {y : Int32} (d : decode cc pc = .ok (.lshr, 1)) (kk : w M (pc + 1) ls (.long (x >>> (y.toInt64 &&& 63)) :: st)) : w M pc ls (.int y :: .long x :: st) := by
  obtain ⟨hG, p, e, R, s, m, args, below, meth, c, kc, ks, Q, ⟨hx, hb, hml, hown, hts, hK, hSK, hF, hLo, hkc, hks⟩, rfl⟩ := h
  intro H locs lsA hP hS hl
  exact lv_lshr hx hb d rfl (kk H locs lsA hP hS hl)
theorem Rb.lcmp (h : Rb G cc own nL F Lo w) {x y : Int64} (d : decode cc pc = .ok (.lcmp, 1)) (kk : w M (pc + 1) ls (.int (lg_cmp x y) :: st)) : w M pc ls (.long y :: .long x :: st) := by
  obtain ⟨hG, p, e, R, s, m, args, below, meth, c, kc, ks, Q, ⟨hx, hb, hml, hown, hts, hK, hSK, hF, hLo, hkc, hks⟩, rfl⟩ := h
  intro H locs lsA hP hS hl
  exact W.lcmp hx hb d (kk H locs lsA hP hS hl)
theorem Rb.iconst (h : Rb G cc own nL F Lo w) {n : Int} {v : Int32} (d : decode cc pc = .ok (.iconst n, 1)) (hv : Int32.ofInt n = v) (kk : w M (pc + 1) ls (.int v :: st)) : w M pc ls st := by
  obtain ⟨hG, p, e, R, s, m, args, below, meth, c, kc, ks, Q, ⟨hx, hb, hml, hown, hts, hK, hSK, hF, hLo, hkc, hks⟩, rfl⟩ := h
  intro H locs lsA hP hS hl
  exact lv_iconst hx hb d hv (kk H locs lsA hP hS hl)
theorem Rb.bipush (h : Rb G cc own nL F Lo w) {n : Int} {v : Int32} (d : decode cc pc = .ok (.bipush n, 2)) (hv : (Int8.ofInt n).toInt32 = v) (kk : w M (pc + 2) ls (.int v :: st)) : w M pc ls st := by
  obtain ⟨hG, p, e, R, s, m, args, below, meth, c, kc, ks, Q, ⟨hx, hb, hml, hown, hts, hK, hSK, hF, hLo, hkc, hks⟩, rfl⟩ := h
  intro H locs lsA hP hS hl
  exact lv_bipush hx hb d hv (kk H locs lsA hP hS hl)
theorem Rb.sipush (h : Rb G cc own nL F Lo w) {n : Int} {v : Int32} (d : decode cc pc = .ok (.sipush n, 3)) (hv : (Int16.ofInt n).toInt32 = v) (kk : w M (pc + 3) ls (.int v :: st)) : w M pc ls st := by
  obtain ⟨hG, p, e, R, s, m, args, below, meth, c, kc, ks, Q, ⟨hx, hb, hml, hown, hts, hK, hSK, hF, hLo, hkc, hks⟩, rfl⟩ := h
  intro H locs lsA hP hS hl
  exact lv_sipush hx hb d hv (kk H locs lsA hP hS hl)
theorem Rb.lconst (h : Rb G cc own nL F Lo w) {n : Fin 2} {v : Int64} (d : decode cc pc = .ok (.lconst n, 1)) (hv : Int64.ofNat (n : Nat) = v) (kk : w M (pc + 1) ls (.long v :: st)) : w M pc ls st := by
  obtain ⟨hG, p, e, R, s, m, args, below, meth, c, kc, ks, Q, ⟨hx, hb, hml, hown, hts, hK, hSK, hF, hLo, hkc, hks⟩, rfl⟩ := h
  intro H locs lsA hP hS hl
  exact lv_lconst hx hb d hv (kk H locs lsA hP hS hl)
theorem Rb.ldc (h : Rb G cc own nL F Lo w) {idx : Nat} {v : Int32} (hc : Jvm.Cond.constant own idx v ∈ gw) (d : decode cc pc = .ok (.ldc idx, 2)) (kk : w M (pc + 2) ls (.int v :: st)) : w M pc ls st := by
  obtain ⟨hG, p, e, R, s, m, args, below, meth, c, kc, ks, Q, ⟨hx, hb, hml, hown, hts, hK, hSK, hF, hLo, hkc, hks⟩, rfl⟩ := h
  intro H locs lsA hP hS hl
  exact lv_ldc hx hb hown (hts _ hc) d (kk H locs lsA hP hS hl)
theorem Rb.ldcw (h : Rb G cc own nL F Lo w) {idx : Nat} {v : Int32} (hc : Jvm.Cond.constant own idx v ∈ gw) (d : decode cc pc = .ok (.ldc_w idx, 3)) (kk : w M (pc + 3) ls (.int v :: st)) : w M pc ls st := by
  obtain ⟨hG, p, e, R, s, m, args, below, meth, c, kc, ks, Q, ⟨hx, hb, hml, hown, hts, hK, hSK, hF, hLo, hkc, hks⟩, rfl⟩ := h
  intro H locs lsA hP hS hl
  exact lv_ldcw hx hb hown (hts _ hc) d (kk H locs lsA hP hS hl)
theorem Rb.ldc2 (h : Rb G cc own nL F Lo w) {idx : Nat} {v : Int64} (hc : Jvm.Cond.constantLong own idx v ∈ gw) (d : decode cc pc = .ok (.ldc2_w idx, 3)) (kk : w M (pc + 3) ls (.long v :: st)) : w M pc ls st := by
  obtain ⟨hG, p, e, R, s, m, args, below, meth, c, kc, ks, Q, ⟨hx, hb, hml, hown, hts, hK, hSK, hF, hLo, hkc, hks⟩, rfl⟩ := h
  intro H locs lsA hP hS hl
  exact lv_ldc2 hx hb hown (hts _ hc) d (kk H locs lsA hP hS hl)
theorem Rb.ldcS (h : Rb G cc own nL F Lo w) {idx i : Nat} {tx : String} (j : Nat) (hj : strT[j]? = some (own, idx, tx, i)) (d : decode cc pc = .ok (.ldc idx, 2)) (kk : w M (pc + 2) ls (.ref (gaK G i) :: st)) : w M pc ls st := by
  obtain ⟨hG, p, e, R, s, m, args, below, meth, c, kc, ks, Q, ⟨hx, hb, hml, hown, hts, hK, hSK, hF, hLo, hkc, hks⟩, rfl⟩ := h
  intro H locs lsA hP hS hl
  exact va_ldcS hx hb hown (hSK.2.1 (own, idx, tx, i) (List.mem_of_getElem? hj)) d (kk H locs lsA hP hS hl)
theorem Rb.iload_n (h : Rb G cc own nL F Lo w) {k : Fin 4} {x : Int32} (j : Nat) (d : decode cc pc = .ok (.iload_n k, 1)) (hj : ls[j]? = some ((k : Nat), .int x)) (kk : w M (pc + 1) ls (.int x :: st)) : w M pc ls st := by
  obtain ⟨hG, p, e, R, s, m, args, below, meth, c, kc, ks, Q, ⟨hx, hb, hml, hown, hts, hK, hSK, hF, hLo, hkc, hks⟩, rfl⟩ := h
  intro H locs lsA hP hS hl
  exact lv_iload_n hx hb d rfl (lv_at hl j hj) (kk H locs lsA hP hS hl)
theorem Rb.iload (h : Rb G cc own nL F Lo w) {i : Nat} {x : Int32} (j : Nat) (d : decode cc pc = .ok (.iload i, 2)) (hj : ls[j]? = some (i, .int x)) (kk : w M (pc + 2) ls (.int x :: st)) : w M pc ls st := by
  obtain ⟨hG, p, e, R, s, m, args, below, meth, c, kc, ks, Q, ⟨hx, hb, hml, hown, hts, hK, hSK, hF, hLo, hkc, hks⟩, rfl⟩ := h
  intro H locs lsA hP hS hl
  exact lv_iload hx hb d (lv_at hl j hj) (kk H locs lsA hP hS hl)
theorem Rb.istore_n (h : Rb G cc own nL F Lo w) {k : Fin 4} {x : Int32} {ls2 : List (Nat × Value)} (d : decode cc pc = .ok (.istore_n k, 1)) (hn : (k : Nat) < nL) (hl2 : ((k : Nat), Value.int x) :: ls.filter (fun q => !(q.1 == (k : Nat)) && !(q.1 + 1 == (k : Nat) && q.2.category == 2)) = ls2) (kk : w M (pc + 1) ls2 st) : w M pc ls (.int x :: st) := by
  obtain ⟨hG, p, e, R, s, m, args, below, meth, c, kc, ks, Q, ⟨hx, hb, hml, hown, hts, hK, hSK, hF, hLo, hkc, hks⟩, rfl⟩ := h
  intro H locs lsA hP hS hl
  exact lv_istore_n hx hb d rfl hl hn hl2 (fun ls3 h3 => kk H locs ls3 hP hS h3)
theorem Rb.istore (h : Rb G cc own nL F Lo w) {i : Nat} {x : Int32} {ls2 : List (Nat × Value)} (d : decode cc pc = .ok (.istore i, 2)) (hn : i < nL) (hl2 : (i, Value.int x) :: ls.filter (fun q => !(q.1 == i) && !(q.1 + 1 == i && q.2.category == 2)) = ls2) (kk : w M (pc + 2) ls2 st) : w M pc ls (.int x :: st) := by
  obtain ⟨hG, p, e, R, s, m, args, below, meth, c, kc, ks, Q, ⟨hx, hb, hml, hown, hts, hK, hSK, hF, hLo, hkc, hks⟩, rfl⟩ := h
  intro H locs lsA hP hS hl
  exact lv_istore hx hb d hl hn hl2 (fun ls3 h3 => kk H locs ls3 hP hS h3)
theorem Rb.lload_n (h : Rb G cc own nL F Lo w) {k : Fin 4} {x : Int64} (j : Nat) (d : decode cc pc = .ok (.lload_n k, 1)) (hj : ls[j]? = some ((k : Nat), .long x)) (kk : w M (pc + 1) ls (.long x :: st)) : w M pc ls st := by
  obtain ⟨hG, p, e, R, s, m, args, below, meth, c, kc, ks, Q, ⟨hx, hb, hml, hown, hts, hK, hSK, hF, hLo, hkc, hks⟩, rfl⟩ := h
  intro H locs lsA hP hS hl
  exact lv_lload_n hx hb d rfl (lv_at hl j hj) (kk H locs lsA hP hS hl)
theorem Rb.lload (h : Rb G cc own nL F Lo w) {i : Nat} {x : Int64} (j : Nat) (d : decode cc pc = .ok (.lload i, 2)) (hj : ls[j]? = some (i, .long x)) (kk : w M (pc + 2) ls (.long x :: st)) : w M pc ls st := by
  obtain ⟨hG, p, e, R, s, m, args, below, meth, c, kc, ks, Q, ⟨hx, hb, hml, hown, hts, hK, hSK, hF, hLo, hkc, hks⟩, rfl⟩ := h
  intro H locs lsA hP hS hl
  exact lv_lload hx hb d (lv_at hl j hj) (kk H locs lsA hP hS hl)
theorem Rb.lstore_n (h : Rb G cc own nL F Lo w) {k : Fin 4} {x : Int64} {ls2 : List (Nat × Value)} (d : decode cc pc = .ok (.lstore_n k, 1)) (hn : (k : Nat) + 1 < nL) (hl2 : ((k : Nat), Value.long x) :: ls.filter (fun q => !(q.1 == (k : Nat)) && (!(q.1 == (k : Nat) + 1) && !(q.1 + 1 == (k : Nat) && q.2.category == 2))) = ls2) (kk : w M (pc + 1) ls2 st) : w M pc ls (.long x :: st) := by
  obtain ⟨hG, p, e, R, s, m, args, below, meth, c, kc, ks, Q, ⟨hx, hb, hml, hown, hts, hK, hSK, hF, hLo, hkc, hks⟩, rfl⟩ := h
  intro H locs lsA hP hS hl
  exact lv_lstore_n hx hb d rfl hl hn hl2 (fun ls3 h3 => kk H locs ls3 hP hS h3)
theorem Rb.lstore (h : Rb G cc own nL F Lo w) {i : Nat} {x : Int64} {ls2 : List (Nat × Value)} (d : decode cc pc = .ok (.lstore i, 2)) (hn : i + 1 < nL) (hl2 : (i, Value.long x) :: ls.filter (fun q => !(q.1 == i) && (!(q.1 == i + 1) && !(q.1 + 1 == i && q.2.category == 2))) = ls2) (kk : w M (pc + 2) ls2 st) : w M pc ls (.long x :: st) := by
  obtain ⟨hG, p, e, R, s, m, args, below, meth, c, kc, ks, Q, ⟨hx, hb, hml, hown, hts, hK, hSK, hF, hLo, hkc, hks⟩, rfl⟩ := h
  intro H locs lsA hP hS hl
  exact lv_lstore hx hb d hl hn hl2 (fun ls3 h3 => kk H locs ls3 hP hS h3)
theorem Rb.aload_n (h : Rb G cc own nL F Lo w) {k : Fin 4} {x : Nat} (j : Nat) (d : decode cc pc = .ok (.aload_n k, 1)) (hj : ls[j]? = some ((k : Nat), .ref x)) (kk : w M (pc + 1) ls (.ref x :: st)) : w M pc ls st := by
  obtain ⟨hG, p, e, R, s, m, args, below, meth, c, kc, ks, Q, ⟨hx, hb, hml, hown, hts, hK, hSK, hF, hLo, hkc, hks⟩, rfl⟩ := h
  intro H locs lsA hP hS hl
  exact lv_aload_n hx hb d rfl (lv_at hl j hj) (kk H locs lsA hP hS hl)
theorem Rb.aload (h : Rb G cc own nL F Lo w) {i : Nat} {x : Nat} (j : Nat) (d : decode cc pc = .ok (.aload i, 2)) (hj : ls[j]? = some (i, .ref x)) (kk : w M (pc + 2) ls (.ref x :: st)) : w M pc ls st := by
  obtain ⟨hG, p, e, R, s, m, args, below, meth, c, kc, ks, Q, ⟨hx, hb, hml, hown, hts, hK, hSK, hF, hLo, hkc, hks⟩, rfl⟩ := h
  intro H locs lsA hP hS hl
  exact lv_aload hx hb d (lv_at hl j hj) (kk H locs lsA hP hS hl)
theorem Rb.astore_n (h : Rb G cc own nL F Lo w) {k : Fin 4} {x : Nat} {ls2 : List (Nat × Value)} (d : decode cc pc = .ok (.astore_n k, 1)) (hn : (k : Nat) < nL) (hl2 : ((k : Nat), Value.ref x) :: ls.filter (fun q => !(q.1 == (k : Nat)) && !(q.1 + 1 == (k : Nat) && q.2.category == 2)) = ls2) (kk : w M (pc + 1) ls2 st) : w M pc ls (.ref x :: st) := by
  obtain ⟨hG, p, e, R, s, m, args, below, meth, c, kc, ks, Q, ⟨hx, hb, hml, hown, hts, hK, hSK, hF, hLo, hkc, hks⟩, rfl⟩ := h
  intro H locs lsA hP hS hl
  exact lv_astore_n hx hb d rfl hl hn hl2 (fun ls3 h3 => kk H locs ls3 hP hS h3)
theorem Rb.astore (h : Rb G cc own nL F Lo w) {i : Nat} {x : Nat} {ls2 : List (Nat × Value)} (d : decode cc pc = .ok (.astore i, 2)) (hn : i < nL) (hl2 : (i, Value.ref x) :: ls.filter (fun q => !(q.1 == i) && !(q.1 + 1 == i && q.2.category == 2)) = ls2) (kk : w M (pc + 2) ls2 st) : w M pc ls (.ref x :: st) := by
  obtain ⟨hG, p, e, R, s, m, args, below, meth, c, kc, ks, Q, ⟨hx, hb, hml, hown, hts, hK, hSK, hF, hLo, hkc, hks⟩, rfl⟩ := h
  intro H locs lsA hP hS hl
  exact lv_astore hx hb d hl hn hl2 (fun ls3 h3 => kk H locs ls3 hP hS h3)
theorem Rb.iinc (h : Rb G cc own nL F Lo w) {i : Nat} {n : Int} {x v : Int32} {ls2 : List (Nat × Value)} (j : Nat) (d : decode cc pc = .ok (.iinc i n, 3)) (hj : ls[j]? = some (i, .int x)) (hv : Int32.ofInt n = v) (hn : i < nL) (hl2 : (i, Value.int (x + v)) :: ls.filter (fun q => !(q.1 == i) && !(q.1 + 1 == i && q.2.category == 2)) = ls2) (kk : w M (pc + 3) ls2 st) : w M pc ls st := by
  obtain ⟨hG, p, e, R, s, m, args, below, meth, c, kc, ks, Q, ⟨hx, hb, hml, hown, hts, hK, hSK, hF, hLo, hkc, hks⟩, rfl⟩ := h
  intro H locs lsA hP hS hl
  subst hv
  exact lv_iinc hx hb d hl hj rfl hn hl2 (fun ls3 h3 => kk H locs ls3 hP hS h3)
theorem Rb.sub (h : Rb G cc own nL F Lo w) {ls2 : List (Nat × Value)} (js : List Nat) (hj : lv_pick ls js = ls2) (kk : w M pc ls2 st) : w M pc ls st := by
  obtain ⟨hG, p, e, R, s, m, args, below, meth, c, kc, ks, Q, ⟨hx, hb, hml, hown, hts, hK, hSK, hF, hLo, hkc, hks⟩, rfl⟩ := h
  intro H locs lsA hP hS hl
  exact kk H locs lsA hP hS (lv_sub hl js hj)
theorem Rb.dup (h : Rb G cc own nL F Lo w) {v : Value} (d : decode cc pc = .ok (.dup, 1)) (hv : v.category = 1) (kk : w M (pc + 1) ls (v :: v :: st)) : w M pc ls (v :: st) := by
  obtain ⟨hG, p, e, R, s, m, args, below, meth, c, kc, ks, Q, ⟨hx, hb, hml, hown, hts, hK, hSK, hF, hLo, hkc, hks⟩, rfl⟩ := h
  intro H locs lsA hP hS hl
  exact lv_dup hx hb d hv (kk H locs lsA hP hS hl)
theorem Rb.dup2 (h : Rb G cc own nL F Lo w) {v u : Value} (d : decode cc pc = .ok (.dup2, 1)) (hv : v.category = 1) (hu : u.category = 1) (kk : w M (pc + 1) ls (v :: u :: v :: u :: st)) : w M pc ls (v :: u :: st) := by
  obtain ⟨hG, p, e, R, s, m, args, below, meth, c, kc, ks, Q, ⟨hx, hb, hml, hown, hts, hK, hSK, hF, hLo, hkc, hks⟩, rfl⟩ := h
  intro H locs lsA hP hS hl
  exact lv_dup2_11 hx hb d hv hu (kk H locs lsA hP hS hl)
theorem Rb.pop (h : Rb G cc own nL F Lo w) {v : Value} (d : decode cc pc = .ok (.pop, 1)) (hv : v.category = 1) (kk : w M (pc + 1) ls st) : w M pc ls (v :: st) := by
  obtain ⟨hG, p, e, R, s, m, args, below, meth, c, kc, ks, Q, ⟨hx, hb, hml, hown, hts, hK, hSK, hF, hLo, hkc, hks⟩, rfl⟩ := h
  intro H locs lsA hP hS hl
  exact lv_pop hx hb d hv (kk H locs lsA hP hS hl)
theorem Rb.goto (h : Rb G cc own nL F Lo w) {off : Int} {tgt : Nat} (d : decode cc pc = .ok (.goto off, 3)) (ht : (pc : Int) + off = (tgt : Int)) (kk : w M tgt ls st) : w M pc ls st := by
  obtain ⟨hG, p, e, R, s, m, args, below, meth, c, kc, ks, Q, ⟨hx, hb, hml, hown, hts, hK, hSK, hF, hLo, hkc, hks⟩, rfl⟩ := h
  intro H locs lsA hP hS hl
  exact lv_goto hx hb d ht (kk H locs lsA hP hS hl)
theorem Rb.icmp_eq (h : Rb G cc own nL F Lo w) {x y : Int32} {off : Int} {tgt : Nat} (d : decode cc pc = .ok (.if_icmp .eq off, 3)) (ht : (pc : Int) + off = (tgt : Int)) (kt : x = y → w M tgt ls st) (kf : ¬ x = y → w M (pc + 3) ls st) : w M pc ls (.int y :: .int x :: st) := by
  obtain ⟨hG, p, e, R, s, m, args, below, meth, c, kc, ks, Q, ⟨hx, hb, hml, hown, hts, hK, hSK, hF, hLo, hkc, hks⟩, rfl⟩ := h
  intro H locs lsA hP hS hl
  exact lv_icmp_eq hx hb d ht (fun q => kt q H locs lsA hP hS hl) (fun q => kf q H locs lsA hP hS hl)
theorem Rb.if_eq (h : Rb G cc own nL F Lo w) {x : Int32} {off : Int} {tgt : Nat} (d : decode cc pc = .ok (.ifCond .eq off, 3)) (ht : (pc : Int) + off = (tgt : Int)) (kt : x = 0 → w M tgt ls st) (kf : ¬ x = 0 → w M (pc + 3) ls st) : w M pc ls (.int x :: st) := by
  obtain ⟨hG, p, e, R, s, m, args, below, meth, c, kc, ks, Q, ⟨hx, hb, hml, hown, hts, hK, hSK, hF, hLo, hkc, hks⟩, rfl⟩ := h
  intro H locs lsA hP hS hl
  exact lv_if_eq hx hb d ht (fun q => kt q H locs lsA hP hS hl) (fun q => kf q H locs lsA hP hS hl)
theorem Rb.icmp_ne (h : Rb G cc own nL F Lo w) {x y : Int32} {off : Int} {tgt : Nat} (d : decode cc pc = .ok (.if_icmp .ne off, 3)) (ht : (pc : Int) + off = (tgt : Int)) (kt : ¬ x = y → w M tgt ls st) (kf : x = y → w M (pc + 3) ls st) : w M pc ls (.int y :: .int x :: st) := by
  obtain ⟨hG, p, e, R, s, m, args, below, meth, c, kc, ks, Q, ⟨hx, hb, hml, hown, hts, hK, hSK, hF, hLo, hkc, hks⟩, rfl⟩ := h
  intro H locs lsA hP hS hl
  exact lv_icmp_ne hx hb d ht (fun q => kt q H locs lsA hP hS hl) (fun q => kf q H locs lsA hP hS hl)
theorem Rb.if_ne (h : Rb G cc own nL F Lo w) {x : Int32} {off : Int} {tgt : Nat} (d : decode cc pc = .ok (.ifCond .ne off, 3)) (ht : (pc : Int) + off = (tgt : Int)) (kt : ¬ x = 0 → w M tgt ls st) (kf : x = 0 → w M (pc + 3) ls st) : w M pc ls (.int x :: st) := by
  obtain ⟨hG, p, e, R, s, m, args, below, meth, c, kc, ks, Q, ⟨hx, hb, hml, hown, hts, hK, hSK, hF, hLo, hkc, hks⟩, rfl⟩ := h
  intro H locs lsA hP hS hl
  exact lv_if_ne hx hb d ht (fun q => kt q H locs lsA hP hS hl) (fun q => kf q H locs lsA hP hS hl)
theorem Rb.icmp_lt (h : Rb G cc own nL F Lo w) {x y : Int32} {off : Int} {tgt : Nat} (d : decode cc pc = .ok (.if_icmp .lt off, 3)) (ht : (pc : Int) + off = (tgt : Int)) (kt : x < y → w M tgt ls st) (kf : ¬ x < y → w M (pc + 3) ls st) : w M pc ls (.int y :: .int x :: st) := by
  obtain ⟨hG, p, e, R, s, m, args, below, meth, c, kc, ks, Q, ⟨hx, hb, hml, hown, hts, hK, hSK, hF, hLo, hkc, hks⟩, rfl⟩ := h
  intro H locs lsA hP hS hl
  exact lv_icmp_lt hx hb d ht (fun q => kt q H locs lsA hP hS hl) (fun q => kf q H locs lsA hP hS hl)
theorem Rb.if_lt (h : Rb G cc own nL F Lo w) {x : Int32} {off : Int} {tgt : Nat} (d : decode cc pc = .ok (.ifCond .lt off, 3)) (ht : (pc : Int) + off = (tgt : Int)) (kt : x < 0 → w M tgt ls st) (kf : ¬ x < 0 → w M (pc + 3) ls st) : w M pc ls (.int x :: st) := by
  obtain ⟨hG, p, e, R, s, m, args, below, meth, c, kc, ks, Q, ⟨hx, hb, hml, hown, hts, hK, hSK, hF, hLo, hkc, hks⟩, rfl⟩ := h
  intro H locs lsA hP hS hl
  exact lv_if_lt hx hb d ht (fun q => kt q H locs lsA hP hS hl) (fun q => kf q H locs lsA hP hS hl)
theorem Rb.icmp_ge (h : Rb G cc own nL F Lo w) {x y : Int32} {off : Int} {tgt : Nat} (d : decode cc pc = .ok (.if_icmp .ge off, 3)) (ht : (pc : Int) + off = (tgt : Int)) (kt : y ≤ x → w M tgt ls st) (kf : ¬ y ≤ x → w M (pc + 3) ls st) : w M pc ls (.int y :: .int x :: st) := by
  obtain ⟨hG, p, e, R, s, m, args, below, meth, c, kc, ks, Q, ⟨hx, hb, hml, hown, hts, hK, hSK, hF, hLo, hkc, hks⟩, rfl⟩ := h
  intro H locs lsA hP hS hl
  exact lv_icmp_ge hx hb d ht (fun q => kt q H locs lsA hP hS hl) (fun q => kf q H locs lsA hP hS hl)
theorem Rb.if_ge (h : Rb G cc own nL F Lo w) {x : Int32} {off : Int} {tgt : Nat} (d : decode cc pc = .ok (.ifCond .ge off, 3)) (ht : (pc : Int) + off = (tgt : Int)) (kt : 0 ≤ x → w M tgt ls st) (kf : ¬ 0 ≤ x → w M (pc + 3) ls st) : w M pc ls (.int x :: st) := by
  obtain ⟨hG, p, e, R, s, m, args, below, meth, c, kc, ks, Q, ⟨hx, hb, hml, hown, hts, hK, hSK, hF, hLo, hkc, hks⟩, rfl⟩ := h
  intro H locs lsA hP hS hl
  exact lv_if_ge hx hb d ht (fun q => kt q H locs lsA hP hS hl) (fun q => kf q H locs lsA hP hS hl)
theorem Rb.icmp_gt (h : Rb G cc own nL F Lo w) {x y : Int32} {off : Int} {tgt : Nat} (d : decode cc pc = .ok (.if_icmp .gt off, 3)) (ht : (pc : Int) + off = (tgt : Int)) (kt : y < x → w M tgt ls st) (kf : ¬ y < x → w M (pc + 3) ls st) : w M pc ls (.int y :: .int x :: st) := by
  obtain ⟨hG, p, e, R, s, m, args, below, meth, c, kc, ks, Q, ⟨hx, hb, hml, hown, hts, hK, hSK, hF, hLo, hkc, hks⟩, rfl⟩ := h
  intro H locs lsA hP hS hl
  exact lv_icmp_gt hx hb d ht (fun q => kt q H locs lsA hP hS hl) (fun q => kf q H locs lsA hP hS hl)
theorem Rb.if_gt (h : Rb G cc own nL F Lo w) {x : Int32} {off : Int} {tgt : Nat} (d : decode cc pc = .ok (.ifCond .gt off, 3)) (ht : (pc : Int) + off = (tgt : Int)) (kt : 0 < x → w M tgt ls st) (kf : ¬ 0 < x → w M (pc + 3) ls st) : w M pc ls (.int x :: st) := by
  obtain ⟨hG, p, e, R, s, m, args, below, meth, c, kc, ks, Q, ⟨hx, hb, hml, hown, hts, hK, hSK, hF, hLo, hkc, hks⟩, rfl⟩ := h
  intro H locs lsA hP hS hl
  exact lv_if_gt hx hb d ht (fun q => kt q H locs lsA hP hS hl) (fun q => kf q H locs lsA hP hS hl)
theorem Rb.icmp_le (h : Rb G cc own nL F Lo w) {x y : Int32} {off : Int} {tgt : Nat} (d : decode cc pc = .ok (.if_icmp .le off, 3)) (ht : (pc : Int) + off = (tgt : Int)) (kt : x ≤ y → w M tgt ls st) (kf : ¬ x ≤ y → w M (pc + 3) ls st) : w M pc ls (.int y :: .int x :: st) := by
  obtain ⟨hG, p, e, R, s, m, args, below, meth, c, kc, ks, Q, ⟨hx, hb, hml, hown, hts, hK, hSK, hF, hLo, hkc, hks⟩, rfl⟩ := h
  intro H locs lsA hP hS hl
  exact lv_icmp_le hx hb d ht (fun q => kt q H locs lsA hP hS hl) (fun q => kf q H locs lsA hP hS hl)
theorem Rb.if_le (h : Rb G cc own nL F Lo w) {x : Int32} {off : Int} {tgt : Nat} (d : decode cc pc = .ok (.ifCond .le off, 3)) (ht : (pc : Int) + off = (tgt : Int)) (kt : x ≤ 0 → w M tgt ls st) (kf : ¬ x ≤ 0 → w M (pc + 3) ls st) : w M pc ls (.int x :: st) := by
  obtain ⟨hG, p, e, R, s, m, args, below, meth, c, kc, ks, Q, ⟨hx, hb, hml, hown, hts, hK, hSK, hF, hLo, hkc, hks⟩, rfl⟩ := h
  intro H locs lsA hP hS hl
  exact lv_if_le hx hb d ht (fun q => kt q H locs lsA hP hS hl) (fun q => kf q H locs lsA hP hS hl)
theorem Rb.tabIn (h : Rb G cc own nL F Lo w) {dflt lo hi : Int} {offs : Array Int} {len : Nat} {x : Int32} {off : Int} {tgt : Nat} (d : decode cc pc = .ok (.tableswitch dflt lo hi offs, len)) (h1 : ¬ x.toInt < lo) (h2 : ¬ hi < x.toInt) (ho : offs[(x.toInt - lo).toNat]? = some off) (ht : (pc : Int) + off = (tgt : Int)) (kk : w M tgt ls st) : w M pc ls (.int x :: st) := by
  obtain ⟨hG, p, e, R, s, m, args, below, meth, c, kc, ks, Q, ⟨hx, hb, hml, hown, hts, hK, hSK, hF, hLo, hkc, hks⟩, rfl⟩ := h
  intro H locs lsA hP hS hl
  exact lv_tableIn hx hb d h1 h2 ho ht (kk H locs lsA hP hS hl)
theorem Rb.tabOut (h : Rb G cc own nL F Lo w) {dflt lo hi : Int} {offs : Array Int} {len : Nat} {x : Int32} {tgt : Nat} (d : decode cc pc = .ok (.tableswitch dflt lo hi offs, len)) (h1 : x.toInt < lo ∨ hi < x.toInt) (ht : (pc : Int) + dflt = (tgt : Int)) (kk : w M tgt ls st) : w M pc ls (.int x :: st) := by
  obtain ⟨hG, p, e, R, s, m, args, below, meth, c, kc, ks, Q, ⟨hx, hb, hml, hown, hts, hK, hSK, hF, hLo, hkc, hks⟩, rfl⟩ := h
  intro H locs lsA hP hS hl
  exact lv_tableOut hx hb d h1 ht (kk H locs lsA hP hS hl)
theorem Rb.lookup (h : Rb G cc own nL F Lo w) {dflt : Int} {ps : Array (Int × Int)} {len : Nat} {x : Int32} {off : Int} {tgt : Nat} (d : decode cc pc = .ok (.lookupswitch dflt ps, len)) (hp : (ps.toList.zip (ps.toList.drop 1)).all (fun (a, next) => a.1 < next.1) = true) (ho : Op.lookupswitch.offset ps.toList dflt x.toInt = off) (ht : (pc : Int) + off = (tgt : Int)) (kk : w M tgt ls st) : w M pc ls (.int x :: st) := by
  obtain ⟨hG, p, e, R, s, m, args, below, meth, c, kc, ks, Q, ⟨hx, hb, hml, hown, hts, hK, hSK, hF, hLo, hkc, hks⟩, rfl⟩ := h
  intro H locs lsA hP hS hl
  exact lv_lookup hx hb d hp ho ht (kk H locs lsA hP hS hl)
end RB
