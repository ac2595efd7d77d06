theorem ac_w : Cond.arrayClass .int ∈ gw ∧ Cond.arrayClass .boolean ∈ gw ∧ Cond.arrayClass .long ∈ gw := ⟨gin 150 (by decide +kernel) rfl, gin 1584 (by decide +kernel) rfl, gin 1986 (by decide +kernel) rfl⟩
theorem oi_w : Cond.instanceMethod Lib.objectInit ∈ gw ∧ Cond.code Lib.objectInit ⟨#[0xb1]⟩ 1 none ∈ gw := ⟨gin 120 (by decide +kernel) rfl, gin 121 (by decide +kernel) rfl⟩
theorem vaP_mem {D : va_G} {cl : List vw_C} {ws : va_W} {H : Heap} : va_P D cl ws H ↔ ∀ q ∈ ws, va_at D cl q H := by
  constructor
  · intro h q hq
    obtain ⟨k, hk⟩ := List.getElem?_of_mem hq
    exact h k q hk
  · exact fun h k q hk => h q (List.mem_of_getElem? hk)
def seg (b n : Nat) : List Nat := (List.range n).map (fun k => b + k)
theorem seg_succ (b n : Nat) : seg b (n + 1) = seg b n ++ [b + n] := by simp [seg, List.range_succ]
theorem seg_add (b n k : Nat) : seg b (n + k) = seg b n ++ seg (b + n) k := by
  induction k with
  | zero => simp [seg]
  | succ k ih => rw [← Nat.add_assoc, seg_succ, ih, seg_succ (b + n), List.append_assoc, Nat.add_assoc]
theorem mem_seg {x b n : Nat} : x ∈ seg b n ↔ b ≤ x ∧ x < b + n := by
  simp only [seg, List.mem_map, List.mem_range]
  constructor
  · rintro ⟨k, h, rfl⟩; omega
  · intro h; exact ⟨x - b, by omega, by omega⟩
theorem seg_nodup (b n : Nat) : (seg b n).Nodup := by
  unfold seg
  exact List.Pairwise.map _ (fun a b h => by omega) List.nodup_range
theorem seg_one (b : Nat) : seg b 1 = [b] := by simp [seg]
theorem seg_cons (b n : Nat) : seg b (n + 1) = b :: seg (b + 1) n := by rw [Nat.add_comm n 1, seg_add, seg_one]; rfl
theorem pl_add {b n k : Nat} {f : Nat → va_E} : va_pl (seg b (n + k)) f = va_pl (seg b n) f ++ va_pl (seg (b + n) k) f := by simp [va_pl, seg_add]
theorem pl_one {b : Nat} {f : Nat → va_E} : va_pl (seg b 1) f = [(b, f b)] := by simp [va_pl, seg_one]
def gS (G : Ctx) (L : List Nat) : Ctx := (G.1, G.2.1, G.2.2.1, L, G.2.2.2.2)
theorem cell_gS {G : Ctx} {L : List Nat} {M : Mem} : cellM (gS G L) M = cellM G M := rfl
theorem SK.sub {G : Ctx} {L1 L2 : List Nat} {a b : Nat} {U : State} {H : Heap} (hab : ∀ q, gA (gS G L2) b q → gA (gS G L1) a q) (h : SK (gS G L1) a U H) : SK (gS G L2) b U H := ⟨h.1.narrow hab, h.2.1, h.2.2.1.narrow hab, h.2.2.2.1.narrow hab, h.2.2.2.2.1, h.2.2.2.2.2.1.narrow hab, h.2.2.2.2.2.2.1.narrow hab, h.2.2.2.2.2.2.2⟩
/-- an object in the making: the fields of S hold what the memory says, the others what a new cell holds -/
def ownF (M : Mem) (a ci : Nat) (S : List Nat) : List Value := (List.range (nfl ci)).map (fun k => if k ∈ S then fvl M a ci k else if (fkd ci k).1 = 0 then .int 0 else .null)
theorem ownF_len {M : Mem} {a ci : Nat} {S : List Nat} : (ownF M a ci S).length = nfl ci := by simp [ownF]
theorem ownF_get {M : Mem} {a ci k : Nat} {S : List Nat} (hk : k < nfl ci) (h : k ∈ S) : (ownF M a ci S)[k]? = some (fvl M a ci k) := by simp [ownF, hk, h]
theorem ownF_set {M : Mem} {a ci k : Nat} {S : List Nat} : (ownF M a ci S).set k (fvl M a ci k) = ownF M a ci (k :: S) := by
  apply List.ext_getElem
  · simp [ownF]
  · intro i h1 h2
    simp only [ownF, List.getElem_set, List.getElem_map, List.getElem_range, List.mem_cons]
    by_cases h : k = i
    · subst h; simp
    · have h' : ¬ i = k := fun e => h e.symm
      simp [h, h']
theorem ownF_all {M : Mem} {a ci : Nat} {S : List Nat} (h : ∀ k, k < nfl ci → k ∈ S ∨ ((fkd ci k).1 = 0 ∧ M.1 a k = 0)) : ownF M a ci S = flds M a ci := by
  unfold ownF flds
  refine List.map_congr_left (fun k hk => ?_)
  rcases h k (List.mem_range.mp hk) with h1 | ⟨h1, h2⟩
  · simp [h1]
  · by_cases h3 : k ∈ S
    · simp [h3]
    · simp [h3, fvl, h1, h2]
def WC (G : Ctx) (p : Program) (e : Env) (R : Room) (s : State) (m : MethodId) (args : Array Value) (below : List Frame) (meth : Method) (c : Code) (nL : Nat) (X0 : List Nat) (Q : State → Prop) : va_W → va_W → Mem → Nat → Nat → Nat → List (Nat × Value) → List Value → Prop := fun X E M kc ks pc ls st =>
  ∀ (H : Heap) (locs : List Loc) (lsA : Array Slot), X.map (fun q => q.1) = X0 → E.map (fun q => q.1) = seg (s.heap.size + kc) E.length → va_P (gD G) vwCl (X ++ va_pl (seg s.heap.size kc) (cellM G M) ++ E) H → va_S (gA (gS G X0) s.heap.size) s.heap H locs → lv_has lsA nL ls → W p (gl G) e R s m args below meth c H locs (kc + E.length) ks Q (F0 m pc lsA st)
def Rk (G : Ctx) (X0 : List Nat) (cc : ByteArray) (own : String) (nL F Lo NC NS sz : Nat) (ini : Prop) (w : va_W → va_W → Mem → Nat → Nat → Nat → List (Nat × Value) → List Value → Prop) : Prop :=
  (X0.Nodup ∧ ∀ a ∈ X0, a < sz) ∧ ∃ (p : Program) (e : Env) (R : Room) (s : State) (m : MethodId) (args : Array Value) (below : List Frame) (meth : Method) (c : Code) (Q : State → Prop),
    (p.tables.exec = Jvm.exec ∧ c.code = cc ∧ c.maxLocals = nL ∧ s.vm.findClass own = some m.cls ∧ (∀ w ∈ gw, w.before args s = true) ∧ va_K (gD G) vwCl (gT G) s ∧ SK (gS G X0) s.heap.size s s.heap ∧ va_AO "java/lang/String" s ∧ F ≤ R.frames ∧ Lo ≤ R.locals ∧ NC ≤ R.cells ∧ NS ≤ R.slots) ∧ sz = s.heap.size ∧ (ini → meth.name = "<init>") ∧ w = WC G p e R s m args below meth c nL X0 Q
def PcI (G : Ctx) (M : Mem) (ci a : Nat) (U : State) : Prop := U.heap.size = a + 1 ∧ va_P (gD G) vwCl [(a, .inr (ci, ownF M a ci []))] U.heap ∧ va_K (gD G) vwCl (gT G) U ∧ SK (gS G [a]) (a + 1) U U.heap ∧ va_AO "java/lang/String" U
def QcI (G : Ctx) (M : Mem) (a mc : Nat) : Array Value → State → Outcome → State → Prop := fun _ st o t => (o = .returned none ∧ va_P (gD G) vwCl (va_pl (seg a (mc + 1)) (cellM G M)) t.heap) ∧ va_F (gA (gS G [a]) (a + 1)) st t
def CtI (G : Ctx) (y : MethodName) (b : ByteArray) (mL F Lo mc ms ci a : Nat) (M : Mem) : Prop := Met (gl G) y (wsy y b mL none) (rmv F Lo mc ms) (va_Pc [.ref a] (PcI G M ci a)) (QcI G M a mc) mc ms (gA (gS G [a]) (a + 1))
theorem PcI.blind {G : Ctx} {M : Mem} {ci a : Nat} {av : List Value} : FrameBlind (va_Pc av (PcI G M ci a)) := fun a U g mk ⟨h1, h2, h3, h4, h5, h6⟩ => ⟨h1, h2, h3, va_K.moved (u := U) (U := U.calling g mk a) (Vm.Alike.refl U.vm) h4, SK.moved (u := U) (U := U.calling g mk a) rfl h5, va_AO.moved (u := U) (U := U.calling g mk a) (Vm.Alike.refl U.vm) h6⟩
theorem wc_key {G : Ctx} {X E : va_W} {X0 : List Nat} {sz kc : Nat} {f : Nat → va_E} (hX : X.map (fun q => q.1) = X0) (hE : E.map (fun q => q.1) = seg (sz + kc) E.length) : (X ++ va_pl (seg sz kc) f ++ E).map (fun q => q.1) = X0 ++ seg sz (kc + E.length) := by
  have h1 : (va_pl (seg sz kc) f).map (fun q => q.1) = seg sz kc := by simp [va_pl, Function.comp_def]
  rw [List.map_append, List.map_append, hX, h1, hE, seg_add, List.append_assoc]
theorem wc_D {G : Ctx} {X E : va_W} {X0 : List Nat} {sz kc : Nat} {f : Nat → va_E} (hn : X0.Nodup) (hlt : ∀ a ∈ X0, a < sz) (hX : X.map (fun q => q.1) = X0) (hE : E.map (fun q => q.1) = seg (sz + kc) E.length) : va_D (gA (gS G X0) sz) (X ++ va_pl (seg sz kc) f ++ E) := by
  have key := wc_key (G := G) (f := f) hX hE
  have nd : (X0 ++ seg sz (kc + E.length)).Nodup := by
    rw [List.nodup_append]
    refine ⟨hn, seg_nodup _ _, fun a ha b hb => ?_⟩
    have h1 := hlt a ha
    have h2 := (mem_seg.mp hb).1
    omega
  rw [← key] at nd
  have get : ∀ (k : Nat) (q : Nat × va_E), (X ++ va_pl (seg sz kc) f ++ E)[k]? = some q → ((X ++ va_pl (seg sz kc) f ++ E).map (fun q => q.1))[k]? = some q.1 := fun k q h => by rw [List.getElem?_map, h]; rfl
  refine ⟨fun i j p q hi hj e => ?_, fun k q hk => ?_⟩
  · have h1 := get i p hi
    have h2 := get j q hj
    rw [← e] at h2
    exact (List.getElem?_inj (List.getElem?_eq_some_iff.mp h1).1 nd).mp (h1.trans h2.symm)
  · have h1 := List.mem_of_getElem? (get k q hk)
    rw [key] at h1
    rcases List.mem_append.mp h1 with h | h
    · exact Or.inl h
    · exact Or.inr (mem_seg.mp h).1
theorem wc_lo {G : Ctx} {X E : va_W} {X0 : List Nat} {sz kc : Nat} {f : Nat → va_E} {H : Heap} (hX : X.map (fun q => q.1) = X0) (hE : E.map (fun q => q.1) = seg (sz + kc) E.length) (hP : va_P (gD G) vwCl (X ++ va_pl (seg sz kc) f ++ E) H) (hS : sz ≤ H.size) : sz + kc + E.length ≤ H.size := by
  by_cases h0 : kc + E.length = 0
  · omega
  · have h1 : sz + (kc + E.length - 1) ∈ (X ++ va_pl (seg sz kc) f ++ E).map (fun q => q.1) := by
      rw [wc_key (G := G) hX hE]
      exact List.mem_append_right _ (mem_seg.mpr ⟨by omega, by omega⟩)
    obtain ⟨q, hq, he⟩ := List.mem_map.mp h1
    obtain ⟨k, hk⟩ := List.getElem?_of_mem hq
    have h2 := (hP k q hk).lt
    rw [he] at h2
    omega
/-- one more cell at the end of the heap -/
theorem wc_push {D : va_G} {ws : va_W} {H H1 : Heap} {e : va_E} {z : Nat} (hP : va_P D vwCl ws H) (he : va_at D vwCl (z, e) H1) (ho : ∀ q, q < H.size → H1[q]? = H[q]?) : va_P D vwCl (ws ++ [(z, e)]) H1 := by
  refine (hP.kept (fun k x hx => ho x.1 ((hP k x hx).lt))).app (fun k x hx => ?_)
  have hz : k < 1 := (List.getElem?_eq_some_iff.mp hx).1
  rw [show k = 0 by omega] at hx
  cases hx
  exact he
def FC (own : String) (idx ci k : Nat) (v : Value) : Prop := ∃ C T N, vwCl[ci]? = some (C, T, N) ∧ N = nfl ci ∧ k < N ∧ Cond.fieldLink own idx (T k).1 (T k).2.1 (T k).2.2.1 ∈ gw ∧ (T k).1 = own ∧ ∃ ty, parseFieldDescriptor (T k).2.2.1 = some ty ∧ narrow ty v = v ∧ fits ty v = true
section RK
variable {G : Ctx} {X0 : List Nat} {cc : ByteArray} {own : String} {nL F Lo NC NS sz : Nat} {ini : Prop} {w : va_W → va_W → Mem → Nat → Nat → Nat → List (Nat × Value) → List Value → Prop} {X E : va_W} {M M1 : Mem} {kc ks pc : Nat} {ls : List (Nat × Value)} {st : List Value}
theorem Rk.iconst (h : Rk G X0 cc own nL F Lo NC NS sz ini w) {n : Int} {v : Int32} (d : decode cc pc = .ok (.iconst n, 1)) (hv : Int32.ofInt n = v) (kk : w X E M kc ks (pc + 1) ls (.int v :: st)) : w X E M kc ks pc ls st := by
  obtain ⟨⟨hnd, hlt⟩, p, e, R, s, m, args, below, meth, c, Q, ⟨hx, hb, hml, hown, hts, hK, hSK, hAO, hF, hLo, hNC, hNS⟩, rfl, hin, rfl⟩ := h
  intro H locs lsA hX hE hP hS hl
  exact lv_iconst hx hb d hv (kk H locs lsA hX hE hP hS hl)
theorem Rk.bipush (h : Rk G X0 cc own nL F Lo NC NS sz ini w) {n : Int} {v : Int32} (d : decode cc pc = .ok (.bipush n, 2)) (hv : (Int8.ofInt n).toInt32 = v) (kk : w X E M kc ks (pc + 2) ls (.int v :: st)) : w X E M kc ks pc ls st := by
  obtain ⟨⟨hnd, hlt⟩, p, e, R, s, m, args, below, meth, c, Q, ⟨hx, hb, hml, hown, hts, hK, hSK, hAO, hF, hLo, hNC, hNS⟩, rfl, hin, rfl⟩ := h
  intro H locs lsA hX hE hP hS hl
  exact lv_bipush hx hb d hv (kk H locs lsA hX hE hP hS hl)
theorem Rk.sipush (h : Rk G X0 cc own nL F Lo NC NS sz ini w) {n : Int} {v : Int32} (d : decode cc pc = .ok (.sipush n, 3)) (hv : (Int16.ofInt n).toInt32 = v) (kk : w X E M kc ks (pc + 3) ls (.int v :: st)) : w X E M kc ks pc ls st := by
  obtain ⟨⟨hnd, hlt⟩, p, e, R, s, m, args, below, meth, c, Q, ⟨hx, hb, hml, hown, hts, hK, hSK, hAO, hF, hLo, hNC, hNS⟩, rfl, hin, rfl⟩ := h
  intro H locs lsA hX hE hP hS hl
  exact lv_sipush hx hb d hv (kk H locs lsA hX hE hP hS hl)
theorem Rk.aload_n (h : Rk G X0 cc own nL F Lo NC NS sz ini w) {k : Fin 4} {x : Nat} (j : Nat) (d : decode cc pc = .ok (.aload_n k, 1)) (hj : ls[j]? = some ((k : Nat), .ref x)) (kk : w X E M kc ks (pc + 1) ls (.ref x :: st)) : w X E M kc ks pc ls st := by
  obtain ⟨⟨hnd, hlt⟩, p, e, R, s, m, args, below, meth, c, Q, ⟨hx, hb, hml, hown, hts, hK, hSK, hAO, hF, hLo, hNC, hNS⟩, rfl, hin, rfl⟩ := h
  intro H locs lsA hX hE hP hS hl
  exact lv_aload_n hx hb d rfl (lv_at hl j hj) (kk H locs lsA hX hE hP hS hl)
theorem Rk.dup (h : Rk G X0 cc own nL F Lo NC NS sz ini w) {v : Value} (d : decode cc pc = .ok (.dup, 1)) (hv : v.category = 1) (kk : w X E M kc ks (pc + 1) ls (v :: v :: st)) : w X E M kc ks pc ls (v :: st) := by
  obtain ⟨⟨hnd, hlt⟩, p, e, R, s, m, args, below, meth, c, Q, ⟨hx, hb, hml, hown, hts, hK, hSK, hAO, hF, hLo, hNC, hNS⟩, rfl, hin, rfl⟩ := h
  intro H locs lsA hX hE hP hS hl
  exact lv_dup hx hb d hv (kk H locs lsA hX hE hP hS hl)
theorem Rk.ldcS (h : Rk G X0 cc own nL F Lo NC NS sz ini w) {idx i : Nat} {tx : String} (j : Nat) (d : decode cc pc = .ok (.ldc idx, 2)) (hj : strT[j]? = some (own, idx, tx, i)) (kk : w X E M kc ks (pc + 2) ls (.ref (gaK G i) :: st)) : w X E M kc ks pc ls st := by
  obtain ⟨⟨hnd, hlt⟩, p, e, R, s, m, args, below, meth, c, Q, ⟨hx, hb, hml, hown, hts, hK, hSK, hAO, hF, hLo, hNC, hNS⟩, rfl, hin, rfl⟩ := h
  intro H locs lsA hX hE hP hS hl
  exact va_ldcS hx hb hown (hSK.2.1 (own, idx, tx, i) (List.mem_of_getElem? hj)) d (kk H locs lsA hX hE hP hS hl)
theorem Rk.objInit (h : Rk G X0 cc own nL F Lo NC NS sz ini w) {a idx : Nat} (hl2 : Cond.methodLink own idx Lib.objectInit ∈ gw) (hFF : 1 ≤ F ∧ 12 ≤ Lo) (d : decode cc pc = .ok (.invokespecial idx, 3)) (kk : w X E M kc ks (pc + 3) ls []) : w X E M kc ks pc ls [.ref a] := by
  obtain ⟨⟨hnd, hlt⟩, p, e, R, s, m, args, below, meth, c, Q, ⟨hx, hb, hml, hown, hts, hK, hSK, hAO, hF, hLo, hNC, hNS⟩, rfl, hin, rfl⟩ := h
  intro H locs lsA hX hE hP hS hl
  refine W.objInit hx hb hown (hts _ hl2) (hts _ oi_w.1) (hts _ oi_w.2) rfl (by rw [hml]; exact hl.1) rfl d (by omega) (by show 2 * 0 + 0 + 12 ≤ _; omega) ?_
  exact kk H locs lsA hX hE hP hS hl
theorem Rk.newI (h : Rk G X0 cc own nL F Lo NC NS sz ini w) {n : Nat} {v : Int32} (hv : ¬ v < 0 ∧ v.toNatClampNeg = n) (hk : kc + 1 ≤ NC ∧ ks + n ≤ NS ∧ n ≤ 100000) (d : decode cc pc = .ok (.newarray .int, 2)) (kk : w X [(sz + kc, .inl (gcA G 0, (n, .inl (fun _ => 0))))] M kc (ks + n) (pc + 2) ls (.ref (sz + kc) :: st)) : w X [] M kc ks pc ls (.int v :: st) := by
  obtain ⟨⟨hnd, hlt⟩, p, e, R, s, m, args, below, meth, c, Q, ⟨hx, hb, hml, hown, hts, hK, hSK, hAO, hF, hLo, hNC, hNS⟩, rfl, hin, rfl⟩ := h
  intro H locs lsA hX hE hP hS hl
  intro T hT XS
  have hup : H.size ≤ s.heap.size + kc := by have h9 := XS.heapSize; rw [hT] at h9; simpa using h9
  have hlo := wc_lo hX hE hP hS.1
  have hsz : H.size = s.heap.size + kc := by simp only [List.length_nil] at hlo; omega
  revert T hT XS
  rw [List.append_nil] at hP
  refine va_newaK hx hb (atype := .int) (hts _ ac_w.1) rfl d rfl hv.1 hv.2 (by show n * 4 ≤ _; omega) (by simp only [List.length_nil]; omega) (by omega) rfl fun H1 cA e1 z1 o1 hAr hNm => ?_
  have hcA : cA = gcA G 0 := Option.some.inj (hNm.symm.trans (hK.2 0 _ rfl).2)
  subst hcA
  rw [hsz] at e1 ⊢
  refine kk H1 locs lsA hX (by simp [seg_one]) (wc_push hP e1 o1) ⟨by rw [z1]; exact Nat.le_trans hS.1 (by omega), fun x h1 h2 => (o1 x (by omega)).trans (hS.2.1 x h1 h2), hS.2.2⟩ hl
theorem Rk.newZ (h : Rk G X0 cc own nL F Lo NC NS sz ini w) {n : Nat} {v : Int32} (hv : ¬ v < 0 ∧ v.toNatClampNeg = n) (hk : kc + 1 ≤ NC ∧ ks + n ≤ NS ∧ n ≤ 100000) (d : decode cc pc = .ok (.newarray .boolean, 2)) (kk : w X [(sz + kc, .inl (gcA G 1, (n, .inl (fun _ => 0))))] M kc (ks + n) (pc + 2) ls (.ref (sz + kc) :: st)) : w X [] M kc ks pc ls (.int v :: st) := by
  obtain ⟨⟨hnd, hlt⟩, p, e, R, s, m, args, below, meth, c, Q, ⟨hx, hb, hml, hown, hts, hK, hSK, hAO, hF, hLo, hNC, hNS⟩, rfl, hin, rfl⟩ := h
  intro H locs lsA hX hE hP hS hl
  intro T hT XS
  have hup : H.size ≤ s.heap.size + kc := by have h9 := XS.heapSize; rw [hT] at h9; simpa using h9
  have hlo := wc_lo hX hE hP hS.1
  have hsz : H.size = s.heap.size + kc := by simp only [List.length_nil] at hlo; omega
  revert T hT XS
  rw [List.append_nil] at hP
  refine va_newaK hx hb (atype := .boolean) (hts _ ac_w.2.1) rfl d rfl hv.1 hv.2 (by show n * 1 ≤ _; omega) (by simp only [List.length_nil]; omega) (by omega) rfl fun H1 cA e1 z1 o1 hAr hNm => ?_
  have hcA : cA = gcA G 1 := Option.some.inj (hNm.symm.trans (hK.2 1 _ rfl).2)
  subst hcA
  rw [hsz] at e1 ⊢
  refine kk H1 locs lsA hX (by simp [seg_one]) (wc_push hP e1 o1) ⟨by rw [z1]; exact Nat.le_trans hS.1 (by omega), fun x h1 h2 => (o1 x (by omega)).trans (hS.2.1 x h1 h2), hS.2.2⟩ hl
theorem Rk.newJ (h : Rk G X0 cc own nL F Lo NC NS sz ini w) {n : Nat} {v : Int32} (hv : ¬ v < 0 ∧ v.toNatClampNeg = n) (hk : kc + 1 ≤ NC ∧ ks + n ≤ NS ∧ n ≤ 100000) (d : decode cc pc = .ok (.newarray .long, 2)) (kk : w X [(sz + kc, .inl (gcA G 2, (n, .inr (.inl (fun _ => 0)))))] M kc (ks + n) (pc + 2) ls (.ref (sz + kc) :: st)) : w X [] M kc ks pc ls (.int v :: st) := by
  obtain ⟨⟨hnd, hlt⟩, p, e, R, s, m, args, below, meth, c, Q, ⟨hx, hb, hml, hown, hts, hK, hSK, hAO, hF, hLo, hNC, hNS⟩, rfl, hin, rfl⟩ := h
  intro H locs lsA hX hE hP hS hl
  intro T hT XS
  have hup : H.size ≤ s.heap.size + kc := by have h9 := XS.heapSize; rw [hT] at h9; simpa using h9
  have hlo := wc_lo hX hE hP hS.1
  have hsz : H.size = s.heap.size + kc := by simp only [List.length_nil] at hlo; omega
  revert T hT XS
  rw [List.append_nil] at hP
  refine va_newaK hx hb (atype := .long) (hts _ ac_w.2.2) rfl d rfl hv.1 hv.2 (by show n * 8 ≤ _; omega) (by simp only [List.length_nil]; omega) (by omega) rfl fun H1 cA e1 z1 o1 hAr hNm => ?_
  have hcA : cA = gcA G 2 := Option.some.inj (hNm.symm.trans (hK.2 2 _ rfl).2)
  subst hcA
  rw [hsz] at e1 ⊢
  refine kk H1 locs lsA hX (by simp [seg_one]) (wc_push hP e1 o1) ⟨by rw [z1]; exact Nat.le_trans hS.1 (by omega), fun x h1 h2 => (o1 x (by omega)).trans (hS.2.1 x h1 h2), hS.2.2⟩ hl
theorem Rk.newS (h : Rk G X0 cc own nL F Lo NC NS sz ini w) {n idx : Nat} {v : Int32} (hcl : Cond.classLink own idx "java/lang/String" ∈ gw) (hv : ¬ v < 0 ∧ v.toNatClampNeg = n) (hk : kc + 1 ≤ NC ∧ ks + n ≤ NS ∧ n ≤ 100000) (d : decode cc pc = .ok (.anewarray idx, 3)) (kk : w X [(sz + kc, .inl (gcA G 3, (n, .inr (.inr (.inr (.inr (fun _ => none)))))))] M kc (ks + n) (pc + 3) ls (.ref (sz + kc) :: st)) : w X [] M kc ks pc ls (.int v :: st) := by
  obtain ⟨⟨hnd, hlt⟩, p, e, R, s, m, args, below, meth, c, Q, ⟨hx, hb, hml, hown, hts, hK, hSK, hAO, hF, hLo, hNC, hNS⟩, rfl, hin, rfl⟩ := h
  intro H locs lsA hX hE hP hS hl
  intro T hT XS
  have hup : H.size ≤ s.heap.size + kc := by have h9 := XS.heapSize; rw [hT] at h9; simpa using h9
  have hlo := wc_lo hX hE hP hS.1
  have hsz : H.size = s.heap.size + kc := by simp only [List.length_nil] at hlo; omega
  revert T hT XS
  rw [List.append_nil] at hP
  obtain ⟨hv1, rfl⟩ := hv
  refine W.anew hx hb hown (hts _ hcl) (va_AO.use hAO) rfl d rfl hv1 (by omega) (by simp only [List.length_nil]; omega) (by omega) fun cA kA comp f1 f2 f3 f4 => ?_
  generalize hH1 : H.push ({ cls := cA, slots := Array.replicate v.toNatClampNeg .null, vm := .none } : Cell) = H1
  have z1 : H1.size = H.size + 1 := by rw [← hH1, Array.size_push]
  have e1 : H1[H.size]? = some (arrV cA v.toNatClampNeg (fun _ => .null)) := by rw [← hH1, Array.getElem?_push_size, ← arrV_new]
  have o1 : ∀ q : Nat, q < H.size → H1[q]? = H[q]? := fun q hq => by rw [← hH1, Array.getElem?_push, if_neg (Nat.ne_of_lt hq)]
  have hcA : cA = gcA G 3 := by
    obtain ⟨_, _, _, _, _, h9⟩ := (hK.2 3 _ rfl).2
    exact Option.some.inj (f1.symm.trans h9)
  subst hcA
  rw [hsz] at e1 ⊢
  refine kk H1 locs lsA hX (by simp [seg_one]) (wc_push hP e1 o1) ⟨by rw [z1]; exact Nat.le_trans hS.1 (by omega), fun x h1 h2 => (o1 x (by omega)).trans (hS.2.1 x h1 h2), hS.2.2⟩ hl
theorem Rk.newO (h : Rk G X0 cc own nL F Lo NC NS sz ini w) {ci idx : Nat} (hcl : ∃ C T N, vwCl[ci]? = some (C, T, N) ∧ N = nfl ci ∧ Cond.classLink own idx C ∈ gw ∧ Cond.instantiable C N ∈ gw ∧ Cond.initialized C ∈ gw ∧ ∀ j, j < N → (parseFieldDescriptor (T j).2.2.1).map defaultValue = some (if (fkd ci j).1 = 0 then .int 0 else .null)) (hk : kc + 1 ≤ NC ∧ ks + nfl ci ≤ NS) (d : decode cc pc = .ok (.new idx, 3)) (kk : w X [(sz + kc, .inr (ci, ownF M (sz + kc) ci []))] M kc (ks + nfl ci) (pc + 3) ls (.ref (sz + kc) :: st)) : w X [] M kc ks pc ls st := by
  obtain ⟨⟨hnd, hlt⟩, p, e, R, s, m, args, below, meth, c, Q, ⟨hx, hb, hml, hown, hts, hK, hSK, hAO, hF, hLo, hNC, hNS⟩, rfl, hin, rfl⟩ := h
  intro H locs lsA hX hE hP hS hl
  intro T hT XS
  have hup : H.size ≤ s.heap.size + kc := by have h9 := XS.heapSize; rw [hT] at h9; simpa using h9
  have hlo := wc_lo hX hE hP hS.1
  have hsz : H.size = s.heap.size + kc := by simp only [List.length_nil] at hlo; omega
  revert T hT XS
  rw [List.append_nil] at hP
  obtain ⟨C, T, N, hc, rfl, hlk, hins, hini, hdv⟩ := hcl
  obtain ⟨h1, ⟨ty0, h2⟩, h3⟩ := ckc hc
  have hKn := hK.1 ci _ hc
  refine W.newcK hx hb hown (hts _ hlk) (hts _ hins) (hts _ hini) rfl d (by simp only [List.length_nil]; omega) (by omega) hKn.2.1 rfl fun H1 kC hkC e1 z1 o1 => ?_
  have hfs : ∀ j, j < nfl ci → defaultValue (ty0 j) = vp_V (ownF M (s.heap.size + kc) ci []) j := fun j hj => by
    have h9 := hdv j hj
    rw [h2 j hj] at h9
    rw [show vp_V (ownF M (s.heap.size + kc) ci []) j = (if (fkd ci j).1 = 0 then .int 0 else .null) by simp [vp_V, ownF, hj]]
    exact Option.some.inj h9
  rw [hsz] at e1 ⊢
  refine kk H1 locs lsA hX (by simp [seg_one]) (wc_push hP ⟨_, hc, (u_born ty0 hts h1 hKn hkC e1 h2).to hfs⟩ o1) ⟨by rw [z1]; exact Nat.le_trans hS.1 (by omega), fun x h1 h2 => (o1 x (by omega)).trans (hS.2.1 x h1 h2), hS.2.2⟩ hl
theorem Rk.iastE (h : Rk G X0 cc own nL F Lo NC NS sz ini w) {q n : Nat} {f : Nat → Int32} {i v : Int32} (hi : 0 ≤ i.toInt ∧ i.toInt < n) (d : decode cc pc = .ok (.iastore, 1)) (kk : w X [(q, .inl (gcA G 0, (n, .inl (upd f i.toNatClampNeg v))))] M kc ks (pc + 1) ls st) : w X [(q, .inl (gcA G 0, (n, .inl f)))] M kc ks pc ls (.int v :: .int i :: .ref q :: st) := by
  obtain ⟨⟨hnd, hlt⟩, p, e, R, s, m, args, below, meth, c, Q, ⟨hx, hb, hml, hown, hts, hK, hSK, hAO, hF, hLo, hNC, hNS⟩, rfl, hin, rfl⟩ := h
  intro H locs lsA hX hE hP hS hl
  have hg : (X ++ va_pl (seg s.heap.size kc) (cellM G M) ++ [(q, Sum.inl (gcA G 0, (n, Sum.inl f)))])[(X ++ va_pl (seg s.heap.size kc) (cellM G M)).length]? = some (q, Sum.inl (gcA G 0, (n, Sum.inl f))) := by simp
  have hst : ∀ e', (X ++ va_pl (seg s.heap.size kc) (cellM G M) ++ [(q, Sum.inl (gcA G 0, (n, Sum.inl f)))]).set (X ++ va_pl (seg s.heap.size kc) (cellM G M)).length (q, e') = X ++ va_pl (seg s.heap.size kc) (cellM G M) ++ [(q, e')] := fun e' => by simp
  refine va_iast hx hb hK hP (wc_D hnd hlt hX hE) hS _ 0 hg rfl (vp_in_iff.mpr hi) d (fun H1 locs1 hP1 _ hS1 => ?_)
  rw [hst] at hP1
  exact kk H1 locs1 lsA hX hE hP1 hS1 hl
theorem Rk.sastE (h : Rk G X0 cc own nL F Lo NC NS sz ini w) {q n k : Nat} {f : Nat → Option Nat} {i : Int32} (hk : k < 32) (hi : 0 ≤ i.toInt ∧ i.toInt < n) (d : decode cc pc = .ok (.aastore, 1)) (kk : w X [(q, .inl (gcA G 3, (n, .inr (.inr (.inr (.inr (va_up f i.toNatClampNeg (some (gaK G k)))))))))] M kc ks (pc + 1) ls st) : w X [(q, .inl (gcA G 3, (n, .inr (.inr (.inr (.inr f))))))] M kc ks pc ls (.ref (gaK G k) :: .int i :: .ref q :: st) := by
  obtain ⟨⟨hnd, hlt⟩, p, e, R, s, m, args, below, meth, c, Q, ⟨hx, hb, hml, hown, hts, hK, hSK, hAO, hF, hLo, hNC, hNS⟩, rfl, hin, rfl⟩ := h
  intro H locs lsA hX hE hP hS hl
  have hg : (X ++ va_pl (seg s.heap.size kc) (cellM G M) ++ [(q, Sum.inl (gcA G 3, (n, Sum.inr (Sum.inr (Sum.inr (Sum.inr f))))))])[(X ++ va_pl (seg s.heap.size kc) (cellM G M)).length]? = some (q, Sum.inl (gcA G 3, (n, Sum.inr (Sum.inr (Sum.inr (Sum.inr f)))))) := by simp
  have hst : ∀ e', (X ++ va_pl (seg s.heap.size kc) (cellM G M) ++ [(q, Sum.inl (gcA G 3, (n, Sum.inr (Sum.inr (Sum.inr (Sum.inr f))))))]).set (X ++ va_pl (seg s.heap.size kc) (cellM G M)).length (q, e') = X ++ va_pl (seg s.heap.size kc) (cellM G M) ++ [(q, e')] := fun e' => by simp
  refine vb_astq (C := "java/lang/String") hx hb hK hP (wc_D hnd hlt hX hE) hS _ 3 hg rfl (hSK.1.recv hk hS) (fun a b h1 h2 => by rw [Option.some.inj (h2.symm.trans h1)]; exact Vm.assignable_self _ _) (vp_in_iff.mpr hi) d (fun H1 locs1 hP1 _ hS1 => ?_)
  rw [hst] at hP1
  exact kk H1 locs1 lsA hX hE hP1 hS1 hl
theorem Rk.absorb (h : Rk G X0 cc own nL F Lo NC NS sz ini w) {e9 : va_E} (he : ∀ H, va_at (gD G) vwCl (sz + kc, e9) H → va_at (gD G) vwCl (sz + kc, cellM G M (sz + kc)) H) (kk : w X [] M (kc + 1) ks pc ls st) : w X [(sz + kc, e9)] M kc ks pc ls st := by
  obtain ⟨⟨hnd, hlt⟩, p, e, R, s, m, args, below, meth, c, Q, ⟨hx, hb, hml, hown, hts, hK, hSK, hAO, hF, hLo, hNC, hNS⟩, rfl, hin, rfl⟩ := h
  intro H locs lsA hX hE hP hS hl
  refine kk H locs lsA hX rfl ?_ hS hl
  rw [List.append_nil, pl_add, pl_one, ← List.append_assoc]
  refine vaP_mem.mpr (fun q hq => ?_)
  rcases List.mem_append.mp hq with h1 | h1
  · exact vaP_mem.mp hP q (List.mem_append_left _ h1)
  · obtain rfl := List.mem_singleton.mp h1
    exact he H (vaP_mem.mp hP _ (List.mem_append_right _ (List.mem_singleton.mpr rfl)))
theorem Rk.done (h : Rk G X0 cc own nL F Lo NC NS sz ini w) {a ci : Nat} {S : List Nat} (hg : glay G a = (0, ci)) (ha : ∀ k, k < nfl ci → k ∈ S ∨ ((fkd ci k).1 = 0 ∧ M.1 a k = 0)) (kk : w [(a, cellM G M a)] E M kc ks pc ls st) : w [(a, .inr (ci, ownF M a ci S))] E M kc ks pc ls st := by
  have e9 : cellM G M a = .inr (ci, ownF M a ci S) := by rw [ownF_all ha]; simp [cellM, hg]
  rw [← e9]
  exact kk
theorem Rk.getO (h : Rk G X0 cc own nL F Lo NC NS sz ini w) {a ci k idx : Nat} {S : List Nat} {v : Value} (hf : FL own idx ci k) (hk9 : k ∈ S) (d : decode cc pc = .ok (.getfield idx, 3)) (hv : fvl M a ci k = v) (kk : w [(a, .inr (ci, ownF M a ci S))] E M kc ks (pc + 3) ls (v :: st)) : w [(a, .inr (ci, ownF M a ci S))] E M kc ks pc ls (.ref a :: st) := by
  obtain ⟨⟨hnd, hlt⟩, p, e, R, s, m, args, below, meth, c, Q, ⟨hx, hb, hml, hown, hts, hK, hSK, hAO, hF, hLo, hNC, hNS⟩, rfl, hin, rfl⟩ := h
  intro H locs lsA hX hE hP hS hl
  obtain ⟨C, T, N, hc, hN, hk, hlink⟩ := hf
  subst hv
  exact va_get (C := C) (T := T) (N := N) hx hb hts (ckc hc).1 hown hK hP 0 rfl hc k hk (hts _ hlink) (fun x hx => hx) (ownF_get (by omega) hk9) d (kk H locs lsA hX hE hP hS hl)
theorem Rk.getP (h : Rk G X0 cc own nL F Lo NC NS sz ini w) {b ci k idx : Nat} {v : Value} (hb9 : b ∈ seg sz kc) (hg : glay G b = (0, ci)) (hf : FL own idx ci k) (d : decode cc pc = .ok (.getfield idx, 3)) (hv : fvl M b ci k = v) (kk : w X E M kc ks (pc + 3) ls (v :: st)) : w X E M kc ks pc ls (.ref b :: st) := by
  obtain ⟨⟨hnd, hlt⟩, p, e, R, s, m, args, below, meth, c, Q, ⟨hx, hb, hml, hown, hts, hK, hSK, hAO, hF, hLo, hNC, hNS⟩, rfl, hin, rfl⟩ := h
  intro H locs lsA hX hE hP hS hl
  obtain ⟨C, T, N, hc, hN, hk, hlink⟩ := hf
  subst hv
  obtain ⟨q0, hq⟩ := List.getElem?_of_mem (show (b, Sum.inr (ci, flds M b ci)) ∈ X ++ va_pl (seg s.heap.size kc) (cellM G M) ++ E from List.mem_append_left _ (List.mem_append_right _ (List.mem_map.mpr ⟨b, hb9, by simp [cellM, hg]⟩)))
  exact va_get (C := C) (T := T) (N := N) hx hb hts (ckc hc).1 hown hK hP q0 hq hc k hk (hts _ hlink) (fun x hx => hx) (fl_get (by omega)) d (kk H locs lsA hX hE hP hS hl)
theorem Rk.putF (h : Rk G X0 cc own nL F Lo NC NS sz ini w) {a ci k idx : Nat} {S : List Nat} {v : Value} (hi : ini) (hown9 : own = (vwCl.getD ci default).1) (hf : FC own idx ci k v) (hv : fvl M a ci k = v) (d : decode cc pc = .ok (.putfield idx, 3)) (kk : w [(a, .inr (ci, ownF M a ci (k :: S)))] E M kc ks (pc + 3) ls st) : w [(a, .inr (ci, ownF M a ci S))] E M kc ks pc ls (v :: .ref a :: st) := by
  obtain ⟨⟨hnd, hlt⟩, p, e, R, s, m, args, below, meth, c, Q, ⟨hx, hb, hml, hown, hts, hK, hSK, hAO, hF, hLo, hNC, hNS⟩, rfl, hin, rfl⟩ := h
  intro H locs lsA hX hE hP hS hl
  obtain ⟨C, T, N, hc, hN, hk, hlink, hdecl, ty, hd, hn, hfit⟩ := hf
  obtain ⟨h1, ⟨ty0, h2⟩, h3⟩ := ckc hc
  have hC : own = C := by rw [hown9, List.getD_eq_getElem?_getD, hc]; rfl
  subst hC
  subst hv
  have hD := wc_D (G := G) (f := cellM G M) hnd hlt hX hE
  have hset : ∀ e', ([(a, Sum.inr (ci, ownF M a ci S))] ++ va_pl (seg s.heap.size kc) (cellM G M) ++ E : va_W).set 0 (a, e') = [(a, e')] ++ va_pl (seg s.heap.size kc) (cellM G M) ++ E := fun e' => rfl
  by_cases hfin : (T k).2.2.2 = true
  · refine va_putF (C := own) (T := T) (N := N) hx hb hts h1 ty0 h2 h3 hown hK hP hD hS 0 rfl hc k hk (hts _ hlink) (fun x hx => hx) hfin (hin hi) hdecl hd hn hfit (by rw [ownF_len]; omega) d (fun H1 locs1 hP1 _ hS1 => ?_)
    rw [hset, ownF_set] at hP1
    exact kk H1 locs1 lsA hX hE hP1 hS1 hl
  · refine va_put (C := own) (T := T) (N := N) hx hb hts h1 ty0 h2 h3 hown hK hP hD hS 0 rfl hc k hk (hts _ hlink) (fun x hx => hx) (by simpa using hfin) hd hn hfit (by rw [ownF_len]; omega) d (fun H1 locs1 hP1 _ hS1 => ?_)
    rw [hset, ownF_set] at hP1
    exact kk H1 locs1 lsA hX hE hP1 hS1 hl
theorem Rk.child (h : Rk G X0 cc own nL F Lo NC NS sz ini w) {y : MethodName} {b : ByteArray} {mL F' Lo' mc ms ci idx : Nat} (hc : CtI G y b mL F' Lo' mc ms ci (sz + kc) M) (hm : lkM y b mL none 0) (hy : y.name = "<init>" ∧ Cond.instanceMethod y ∈ gw) (hl2 : Cond.methodLink own idx y ∈ gw) (hr : (st.map fun v => v.category).sum ≤ 8) (hFF : F' + 1 ≤ F ∧ 8 + (mL + 11) + Lo' ≤ Lo) (hk : kc + (mc + 1) ≤ NC ∧ ks + ms ≤ NS) (d : decode cc pc = .ok (.invokespecial idx, 3)) (kk : w X [] M (kc + (mc + 1)) (ks + ms) (pc + 3) ls st) : w X [(sz + kc, .inr (ci, ownF M (sz + kc) ci []))] M kc ks pc ls (.ref (sz + kc) :: st) := by
  obtain ⟨⟨hnd, hlt⟩, p, e, R, s, m, args, below, meth, c, Q, ⟨hx, hb, hml, hown, hts, hK, hSK, hAO, hF, hLo, hNC, hNS⟩, rfl, hin, rfl⟩ := h
  intro H locs lsA hX hE hP hS hl
  intro T hT XS
  have hup : H.size ≤ s.heap.size + (kc + 1) := by have h9 := XS.heapSize; rw [hT] at h9; simpa using h9
  have hlo := wc_lo hX hE hP hS.1
  have hsz : H.size = s.heap.size + kc + 1 := by simp only [List.length_cons, List.length_nil] at hlo; omega
  have hsub : ∀ q, gA (gS G [s.heap.size + kc]) (s.heap.size + kc + 1) q → gA (gS G X0) s.heap.size q := fun q hq => by
    rcases hq with h1 | h1
    · have h2 : q = s.heap.size + kc := List.mem_singleton.mp h1
      exact Or.inr (by omega)
    · exact Or.inr (by omega)
  have hpre : ∀ U : State, U.heap = H → s.WarmedH U.vm → va_Pc [.ref (s.heap.size + kc)] (PcI G M ci (s.heap.size + kc)) #[.ref (s.heap.size + kc)] U := by
    intro U hU hW
    refine ⟨rfl, by rw [hU]; exact hsz, ?_, va_K.moved hW.alike hK, ?_, va_AO.moved hW.alike hAO⟩
    · rw [hU]
      exact vaP_mem.mpr (fun q hq => vaP_mem.mp hP q (List.mem_append_right _ hq))
    · rw [hU]
      exact SK.warm hW (SK.sub hsub (hSK.kept hS.2.1))
  have hrun := va_runI (As := []) (rest := st) (b := s.heap.size + kc) ⟨hx, hb, hml, hown, hts⟩ hc ⟨callB_of 0 hts (good_gw hm.1) rfl rfl rfl (hts _ hm.2.1) (hts _ hl2) hm.2.2 ⟨Nat.le_trans hFF.1 hF, Nat.le_trans hFF.2 hLo⟩, hy.1, hts _ hy.2⟩ ⟨PcI.blind, hpre⟩ rfl rfl hl.1 rfl (lv_room hr) d ⟨by omega, by omega⟩ (p := p) (l := gl G) (e := e) (R := R) (below := below) (meth := meth) (c := c) (H := H) (locs := locs) (cells := kc + 1) (slots := ks) (g := F0 m pc lsA (.ref (s.heap.size + kc) :: st))
  obtain ⟨v, st₀, t, T', L, h0, X', hL, e1, e2, ⟨⟨hv, hP1⟩, hz, hk9⟩, stp⟩ := hrun T hT XS
  obtain rfl : v = none := by cases hv; rfl
  rw [h0] at hz hk9
  have hold : ∀ q, q < s.heap.size + kc → t.heap[q]? = H[q]? := fun q hq => hk9 q (by omega) (fun z => by
    rcases z with h1 | h1
    · have h2 : q = s.heap.size + kc := List.mem_singleton.mp h1
      omega
    · omega)
  have hX9 : ∀ q ∈ X ++ va_pl (seg s.heap.size kc) (cellM G M), q.1 < s.heap.size + kc := fun q hq => by
    rcases List.mem_append.mp hq with h1 | h1
    · have h2 : q.1 ∈ X0 := by rw [← hX]; exact List.mem_map.mpr ⟨q, h1, rfl⟩
      have := hlt _ h2
      omega
    · obtain ⟨a, ha, rfl⟩ := List.mem_map.mp h1
      exact (mem_seg.mp ha).2
  obtain ⟨t2, a1, b1⟩ := kk T'.heap (locs ++ L) lsA hX rfl (by
      rw [e1, List.append_nil, pl_add, ← List.append_assoc]
      refine vaP_mem.mpr (fun q hq => ?_)
      rcases List.mem_append.mp hq with h1 | h1
      · exact (vaP_mem.mp hP q (List.mem_append_left _ h1)).kept (hold _ (hX9 q h1))
      · exact vaP_mem.mp hP1 q h1)
    ⟨Nat.le_trans hS.1 (by rw [e1]; exact hz), fun q h1 h2 => by rw [e1, hold q (by omega)]; exact hS.2.1 q h1 h2, fun q hq => by
      rcases List.mem_append.mp hq with h | h
      · exact hS.2.2 q h
      · exact hsub _ (hL q h)⟩ hl T' rfl (by simpa [Nat.add_assoc, Nat.add_comm, Nat.add_left_comm] using X')
  exact ⟨t2, stp t2 a1, b1⟩
theorem Rk.childN (h : Rk G X0 cc own nL F Lo NC NS sz ini w) {y : MethodName} {b : ByteArray} {mL F' Lo' mc ms ci idx : Nat} (hc : CtI G y b mL F' Lo' mc ms ci (sz + kc) M) (hm : lkM y b mL none 0) (hy : y.name = "<init>" ∧ Cond.instanceMethod y ∈ gw) {host : String} (j : Nat) (hl2 : nestT[j]? = some (own, idx, y, host)) (hr : (st.map fun v => v.category).sum ≤ 8) (hFF : F' + 1 ≤ F ∧ 8 + (mL + 11) + Lo' ≤ Lo) (hk : kc + (mc + 1) ≤ NC ∧ ks + ms ≤ NS) (d : decode cc pc = .ok (.invokespecial idx, 3)) (kk : w X [] M (kc + (mc + 1)) (ks + ms) (pc + 3) ls st) : w X [(sz + kc, .inr (ci, ownF M (sz + kc) ci []))] M kc ks pc ls (.ref (sz + kc) :: st) := by
  obtain ⟨⟨hnd, hlt⟩, p, e, R, s, m, args, below, meth, c, Q, ⟨hx, hb, hml, hown, hts, hK, hSK, hAO, hF, hLo, hNC, hNS⟩, rfl, hin, rfl⟩ := h
  intro H locs lsA hX hE hP hS hl
  intro T hT XS
  have hup : H.size ≤ s.heap.size + (kc + 1) := by have h9 := XS.heapSize; rw [hT] at h9; simpa using h9
  have hlo := wc_lo hX hE hP hS.1
  have hsz : H.size = s.heap.size + kc + 1 := by simp only [List.length_cons, List.length_nil] at hlo; omega
  have hsub : ∀ q, gA (gS G [s.heap.size + kc]) (s.heap.size + kc + 1) q → gA (gS G X0) s.heap.size q := fun q hq => by
    rcases hq with h1 | h1
    · have h2 : q = s.heap.size + kc := List.mem_singleton.mp h1
      exact Or.inr (by omega)
    · exact Or.inr (by omega)
  have hpre : ∀ U : State, U.heap = H → s.WarmedH U.vm → va_Pc [.ref (s.heap.size + kc)] (PcI G M ci (s.heap.size + kc)) #[.ref (s.heap.size + kc)] U := by
    intro U hU hW
    refine ⟨rfl, by rw [hU]; exact hsz, ?_, va_K.moved hW.alike hK, ?_, va_AO.moved hW.alike hAO⟩
    · rw [hU]
      exact vaP_mem.mpr (fun q hq => vaP_mem.mp hP q (List.mem_append_right _ hq))
    · rw [hU]
      exact SK.warm hW (SK.sub hsub (hSK.kept hS.2.1))
  have hrun := va_runIN (As := []) (rest := st) (b := s.heap.size + kc) ⟨hx, hb, hml, hown, hts⟩ hc ⟨va_cnB 0 hts (good_gw hm.1) rfl rfl rfl (hSK.2.2.2.2.1 (own, idx, y, host) (List.mem_of_getElem? hl2)) (hts _ hm.2.1) hm.2.2 ⟨Nat.le_trans hFF.1 hF, Nat.le_trans hFF.2 hLo⟩, hy.1, hts _ hy.2⟩ ⟨PcI.blind, hpre⟩ rfl rfl hl.1 rfl (lv_room hr) d ⟨by omega, by omega⟩ (p := p) (l := gl G) (e := e) (R := R) (below := below) (meth := meth) (c := c) (H := H) (locs := locs) (cells := kc + 1) (slots := ks) (g := F0 m pc lsA (.ref (s.heap.size + kc) :: st))
  obtain ⟨v, st₀, t, T', L, h0, X', hL, e1, e2, ⟨⟨hv, hP1⟩, hz, hk9⟩, stp⟩ := hrun T hT XS
  obtain rfl : v = none := by cases hv; rfl
  rw [h0] at hz hk9
  have hold : ∀ q, q < s.heap.size + kc → t.heap[q]? = H[q]? := fun q hq => hk9 q (by omega) (fun z => by
    rcases z with h1 | h1
    · have h2 : q = s.heap.size + kc := List.mem_singleton.mp h1
      omega
    · omega)
  have hX9 : ∀ q ∈ X ++ va_pl (seg s.heap.size kc) (cellM G M), q.1 < s.heap.size + kc := fun q hq => by
    rcases List.mem_append.mp hq with h1 | h1
    · have h2 : q.1 ∈ X0 := by rw [← hX]; exact List.mem_map.mpr ⟨q, h1, rfl⟩
      have := hlt _ h2
      omega
    · obtain ⟨a, ha, rfl⟩ := List.mem_map.mp h1
      exact (mem_seg.mp ha).2
  obtain ⟨t2, a1, b1⟩ := kk T'.heap (locs ++ L) lsA hX rfl (by
      rw [e1, List.append_nil, pl_add, ← List.append_assoc]
      refine vaP_mem.mpr (fun q hq => ?_)
      rcases List.mem_append.mp hq with h1 | h1
      · exact (vaP_mem.mp hP q (List.mem_append_left _ h1)).kept (hold _ (hX9 q h1))
      · exact vaP_mem.mp hP1 q h1)
    ⟨Nat.le_trans hS.1 (by rw [e1]; exact hz), fun q h1 h2 => by rw [e1, hold q (by omega)]; exact hS.2.1 q h1 h2, fun q hq => by
      rcases List.mem_append.mp hq with h | h
      · exact hS.2.2 q h
      · exact hsub _ (hL q h)⟩ hl T' rfl (by simpa [Nat.add_assoc, Nat.add_comm, Nat.add_left_comm] using X')
  exact ⟨t2, stp t2 a1, b1⟩
theorem Rk.callV {a t ct : Nat} {y : MethodName} {b : ByteArray} {mL F' Lo' n idx : Nat} {As rest : List Value} {M' : Mem} (h : Rk G [a] cc own nL F Lo NC NS (a + 1) ini w) (hc : Ct (gS G (seg a (kc + 1))) y b mL none F' Lo' (.ref t :: As) M none M') (hm : lkM y b mL none n) (hi : Cond.instanceMethod y ∈ gw ∧ Cond.selects y.cls y y ∈ gw) (hl : Cond.methodLink own idx y ∈ gw) (ha : hs (gS G (seg a (kc + 1))) t (0, ct)) (hcl : ∃ T N, vwCl[ct]? = some (y.cls, T, N)) (hn : As.length = n) (hst : st = As.reverse ++ .ref t :: rest) (hr : (rest.map fun v => v.category).sum ≤ 8) (hFF : F' + 1 ≤ F ∧ 8 + (mL + 11) + Lo' ≤ Lo) (hk : kc ≤ NC ∧ ks ≤ NS) (d : decode cc pc = .ok (.invokevirtual idx, 3)) (kk : w [(a, cellM G M' a)] [] M' kc ks (pc + 3) ls rest) : w [(a, cellM G M a)] [] M kc ks pc ls st := by
  obtain ⟨⟨hnd, hlt⟩, p, e, R, s, m, args, below, meth, c, Q, ⟨hx, hb, hml, hown, hts, hK, hSK, hAO, hF, hLo, hNC, hNS⟩, hsz9, hin, rfl⟩ := h
  intro H locs lsA hX hE hP hS hl'
  have hw : ∀ M9 : Mem, [(a, cellM G M9 a)] ++ va_pl (seg s.heap.size kc) (cellM G M9) ++ [] = wsM (gS G (seg a (kc + 1))) M9 := fun M9 => by
    rw [← hsz9, List.append_nil, wsM, seg_cons]; rfl
  rw [hw] at hP
  obtain ⟨T9, N9, hcl⟩ := hcl
  obtain ⟨q0, hq⟩ := wsM_get (M := M) ha.1
  have hq' : (wsM (gS G (seg a (kc + 1))) M)[q0]? = some (t, .inr (ct, flds M t ct)) := by rw [hq]; simp [cellM, ha.2]
  have hsub : ∀ z, s.heap.size ≤ z → ∀ q, gA (gS G (seg a (kc + 1))) z q → gA (gS G [a]) s.heap.size q := fun z hz q hq => by
    rcases hq with h1 | h1
    · have h2 := mem_seg.mp h1
      by_cases h3 : q = a
      · exact Or.inl (List.mem_singleton.mpr h3)
      · exact Or.inr (by omega)
    · exact Or.inr (by omega)
  have hpre : ∀ U : State, U.heap = H → s.WarmedH U.vm → va_Pc (.ref t :: As) (Pcm (gS G (seg a (kc + 1))) M H.size) (Value.ref t :: As).toArray U := by
    intro U hU hW
    refine ⟨rfl, by rw [hU], by rw [hU]; exact hP, va_K.moved hW.alike hK, ?_⟩
    rw [hU]
    exact SK.warm hW (SK.sub (hsub _ hS.1) (hSK.kept hS.2.1))
  have hrun := va_runV (As := As) (rest := rest) ⟨hx, hb, hml, hown, hts⟩ (hc H.size) ⟨callB_of n hts (good_gw hm.1) rfl rfl rfl (hts _ hm.2.1) (hts _ hl) hm.2.2 ⟨Nat.le_trans hFF.1 hF, Nat.le_trans hFF.2 hLo⟩, hts _ hi.1, hts _ hi.2⟩ ⟨Pcm.blind, va_recv hK hP hcl hq', hpre⟩ rfl hn hl'.1 hst (lv_room hr) d ⟨Nat.le_trans hk.1 hNC, Nat.le_trans hk.2 hNS⟩ (p := p) (l := gl G) (e := e) (R := R) (below := below) (meth := meth) (c := c) (H := H) (locs := locs) (cells := kc) (slots := ks) (g := F0 m pc lsA st)
  intro T hT XS
  obtain ⟨v, st₀, t9, T', L, h0, X', hL, e1, e2, ⟨⟨hv, hP1⟩, hz, hk9⟩, stp⟩ := hrun T hT XS
  obtain rfl : v = none := by cases hv; rfl
  rw [h0] at hz hk9
  obtain ⟨t2, a1, b1⟩ := kk T'.heap (locs ++ L) lsA hX rfl (by rw [hw, e1]; exact hP1)
    ⟨Nat.le_trans hS.1 (by rw [e1]; exact hz), fun q h1 h2 => by rw [e1, hk9 q (Nat.lt_of_lt_of_le h1 hS.1) (fun z => h2 (hsub _ hS.1 q z))]; exact hS.2.1 q h1 h2, fun q hq => by
      rcases List.mem_append.mp hq with h | h
      · exact hS.2.2 q h
      · exact hsub _ hS.1 _ (hL q h)⟩ hl' T' rfl X'
  exact ⟨t2, stp t2 a1, b1⟩
end RK
theorem ct_new {G : Ctx} {y : MethodName} {b : ByteArray} {mL F Lo mc ms ci a : Nat} {M : Mem} (hy : plainFor y = true) (hlen : 1 ≤ mL) (hini : y.name = "<init>")
    (body : ∀ w, Rk G [a] b y.cls mL F Lo mc ms (a + 1) True w → (∀ (pc : Nat) (ls : List (Nat × Value)) (X : va_W) (Mx : Mem), decode b pc = .ok (.return_, 1) → (∀ H, va_P (gD G) vwCl (X ++ va_pl (seg (a + 1) mc) (cellM G Mx)) H → va_P (gD G) vwCl (va_pl (seg a (mc + 1)) (cellM G M)) H) → w X [] Mx mc ms pc ls []) → w [(a, .inr (ci, ownF M a ci []))] [] M 0 0 0 [(0, .ref a)] []) : CtI G y b mL F Lo mc ms ci a M := by
  refine Met.ofWF (cc := b) (maxL := mL) (ret := none) hy rfl ?_
  intro p e s m args below meth c s₁ B hml hv
  obtain ⟨rfl, hsz, hP, hK, hSK, hAO⟩ := hv
  have hts := atoms_spec (ws := wsy y b mL none) B.pre
  have hin : meth.name = "<init>" := (name_of_methodNamed B.named B.method).1.trans hini
  rw [lg_entry_eq]
  refine body (WC G p e (headSpec (wsy y b mL none) (rmv F Lo mc ms)).room s m [Value.ref a].toArray below meth c mL [a] _) ⟨⟨by simp, fun q hq => by rw [List.mem_singleton.mp hq]; omega⟩, p, e, _, s, m, [Value.ref a].toArray, below, meth, c, _, ⟨B.exec, B.bytes, hml, findClass_of_methodNamed B.named, fun w hw => hts w (List.mem_cons_of_mem _ hw), hK, by rw [hsz]; exact hSK, hAO, Nat.le_refl _, Nat.le_refl _, Nat.le_refl _, Nat.le_refl _⟩, hsz.symm, fun _ => hin, rfl⟩ ?_ s.heap [] _ rfl rfl hP va_S.rf (lv_entry [.ref a] hlen)
  intro pc ls X Mx d hfin H locs lsA hX hE hP1 hS1 hl1
  rw [List.append_nil, hsz] at hP1
  have hA : ∀ q, gA (gS G [a]) s.heap.size q → gA (gS G [a]) (a + 1) q := fun q hq => by rw [← hsz]; exact hq
  refine W.vret B.exec B.bytes B.returns (fun t ht hW => ⟨⟨rfl, by rw [ht]; exact hfin H hP1⟩, ?_⟩) (fun q hq => hA _ (hS1.2.2 q hq)) d B.notSynchronized
  rw [← hsz]
  exact hS1.F ht

