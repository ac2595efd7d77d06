def R_law : String := "CircuitCellsLaw"
def lw_P (b : Addr) (xs : List Int32) (args : Array Value) (s : State) : Prop := args = #[.ref b] ∧ s.IntsAt b xs ∧ xs.length ≤ 3072 ∧ (Jvm.Cond.and given_1 narrow_1).before args s = true
def lw_Q (_ : Array Value) (s : State) (o : Outcome) (t : State) : Prop := o = .returned (some (.int 1)) ∧ Framed s o t [] 601024 7293033
def lw_Z (below : List Frame) (a : Array Value) (s : State) : State → Prop := fun t => ∃ o, t.status = .running ∧ Ended t below o ∧ lw_Q a s o t
/-- the law's own end, with 1 on the stack, nothing written that was there before, its room as the claim has it -/
theorem lw_ret {p : Program} {l : Launch} {e : Env} {s : State} {m : MethodId} {below : List Frame} {meth : Method} {c : Code} {b : Nat} (hx : p.tables.exec = Jvm.exec) (hb : c.code = code) (hr : meth.sig.returnType = ret) (hlocks : meth.locks = false) {pc : Nat} {H : Heap} {ls : Array Slot} (hdg : decode code pc = .ok (.ireturn, 1)) : W p l e room_1 s m #[Value.ref b] below meth c H [] 601024 7293033 (lw_Z below #[Value.ref b] s) (F0 m pc ls [.int 1]) := by
  intro T hT X
  obtain ⟨fs, hret, hrun, hended, hW, hframe⟩ := X.leave (v := some (.int 1)) (hlocks := hlocks) (fun h => by rw [hr] at h; cases h)
  have hmeth' : T.vm.method? m = some meth := X.method'
  refine ⟨T.setFrames fs, ?_, .returned (some (.int 1)), hrun, hended, rfl, ⟨_, rfl⟩, hW, hframe⟩
  jvm_step X.here [X.here.top, hx, hb, hdg, hmeth', hr, ret, narrow_b1]
  (try refine ⟨rfl, ?_⟩); (try refine ⟨rfl, ?_⟩)
  first | (intro acts; rw [hret _ acts rfl rfl rfl]) | rw [hret _ _ rfl rfl rfl]
  exact Steps.refl _
/-- what holds at the law's entry: the machine, the code, the tables' words (any of lw_tbl by 'hts w (by decide +kernel)'), the script of L ints xs at the cell b, what the Statement gives of the start (any of its parts by flat_of_before) -/
def lw_At (p : Program) (s : State) (m : MethodId) (meth : Method) (c : Code) (b L : Nat) (xs : Nat → Int32) : Prop :=
  p.tables.exec = Jvm.exec ∧ c.code = code ∧ meth.sig.returnType = ret ∧ c.maxLocals = 7 ∧ s.vm.findClass R_law = some m.cls ∧ (∀ w ∈ lw_tbl, w.before #[Value.ref b] s = true) ∧ va_X b L xs s s.heap ∧ b < s.heap.size ∧ meth.locks = false ∧ (Jvm.Cond.and given_1 narrow_1).before #[Value.ref b] s = true
theorem nw_RL_8 : ∃ C T N, vwCl[10]? = some (C, T, N) ∧ N = nfl 10 ∧ Cond.classLink RL 8 C ∈ gw ∧ Cond.instantiable C N ∈ gw ∧ Cond.initialized C ∈ gw ∧ ∀ j, j < N → (parseFieldDescriptor (T j).2.2.1).map defaultValue = some (if (fkd 10 j).1 = 0 then .int 0 else .null) := ⟨_, _, _, rfl, rfl, gin 114 (by decide +kernel) rfl, gin 115 (by decide +kernel) rfl, gin 90 (by decide +kernel) rfl, by decide +kernel⟩
theorem nw_RL_71 : ∃ C T N, vwCl[11]? = some (C, T, N) ∧ N = nfl 11 ∧ Cond.classLink RL 71 C ∈ gw ∧ Cond.instantiable C N ∈ gw ∧ Cond.initialized C ∈ gw ∧ ∀ j, j < N → (parseFieldDescriptor (T j).2.2.1).map defaultValue = some (if (fkd 11 j).1 = 0 then .int 0 else .null) := ⟨_, _, _, rfl, rfl, gin 1406 (by decide +kernel) rfl, gin 1407 (by decide +kernel) rfl, gin 102 (by decide +kernel) rfl, by decide +kernel⟩
theorem in_X10 : yX10_init.name = "<init>" ∧ Cond.instanceMethod yX10_init ∈ gw := ⟨rfl, gin 117 (by decide +kernel) rfl⟩
theorem lm_X10_init : lkM yX10_init cX10_init 1 none 0 := ⟨gin 118 (by decide +kernel) rfl, gin 90 (by decide +kernel) rfl, by decide +kernel⟩
theorem in_X11 : yX11_init.name = "<init>" ∧ Cond.instanceMethod yX11_init ∈ gw := ⟨rfl, gin 1409 (by decide +kernel) rfl⟩
theorem lm_X11_init : lkM yX11_init cX11_init 1 none 0 := ⟨gin 1410 (by decide +kernel) rfl, gin 102 (by decide +kernel) rfl, by decide +kernel⟩
theorem ll_RL_70 : Cond.methodLink RL 70 yX10_init ∈ gw := gin 116 (by decide +kernel) rfl
theorem ll_RL_73 : Cond.methodLink RL 73 yX11_init ∈ gw := gin 1408 (by decide +kernel) rfl
section RK2
variable {G : Ctx} {X0 : List Nat} {cc : ByteArray} {own : String} {nL F Lo NC NS sz : Nat} {ini : Prop} {w : va_W → va_W → Mem → Nat → Nat → Nat → List (Nat × Value) → List Value → Prop} {X E : va_W} {M M1 : Mem} {kc ks pc : Nat} {ls : List (Nat × Value)} {st : List Value}
theorem Rk.astore_n (h : Rk G X0 cc own nL F Lo NC NS sz ini w) {k : Fin 4} {x : Nat} {ls2 : List (Nat × Value)} (d : decode cc pc = .ok (.astore_n k, 1)) (hn : (k : Nat) < nL) (hl2 : ((k : Nat), Value.ref x) :: ls.filter (fun q => !(q.1 == (k : Nat)) && !(q.1 + 1 == (k : Nat) && q.2.category == 2)) = ls2) (kk : w X E M kc ks (pc + 1) ls2 st) : w X E M kc ks pc ls (.ref x :: st) := by
  obtain ⟨⟨hnd, hlt⟩, p, e, R, s, m, args, below, meth, c, Q, ⟨hx, hb, hml, hown, hts, hK, hSK, hAO, hF, hLo, hNC, hNS⟩, rfl, hin, rfl⟩ := h
  intro H locs lsA hX hE hP hS hl
  exact lv_astore_n hx hb d rfl hl hn hl2 (fun ls3 h3 => kk H locs ls3 hX hE hP hS h3)
theorem Rk.istore (h : Rk G X0 cc own nL F Lo NC NS sz ini w) {i : Nat} {x : Int32} {ls2 : List (Nat × Value)} (d : decode cc pc = .ok (.istore i, 2)) (hn : i < nL) (hl2 : (i, Value.int x) :: ls.filter (fun q => !(q.1 == i) && !(q.1 + 1 == i && q.2.category == 2)) = ls2) (kk : w X E M kc ks (pc + 2) ls2 st) : w X E M kc ks pc ls (.int x :: st) := by
  obtain ⟨⟨hnd, hlt⟩, p, e, R, s, m, args, below, meth, c, Q, ⟨hx, hb, hml, hown, hts, hK, hSK, hAO, hF, hLo, hNC, hNS⟩, rfl, hin, rfl⟩ := h
  intro H locs lsA hX hE hP hS hl
  exact lv_istore hx hb d hl hn hl2 (fun ls3 h3 => kk H locs ls3 hX hE hP hS h3)
theorem Rk.sub (h : Rk G X0 cc own nL F Lo NC NS sz ini w) {ls2 : List (Nat × Value)} (js : List Nat) (hj : lv_pick ls js = ls2) (kk : w X E M kc ks pc ls2 st) : w X E M kc ks pc ls st := by
  obtain ⟨⟨hnd, hlt⟩, p, e, R, s, m, args, below, meth, c, Q, ⟨hx, hb, hml, hown, hts, hK, hSK, hAO, hF, hLo, hNC, hNS⟩, rfl, hin, rfl⟩ := h
  intro H locs lsA hX hE hP hS hl
  exact kk H locs lsA hX hE hP hS (lv_sub hl js hj)
end RK2
/-- the whole heap of the run: class, model, out -/
def BLL : List (Nat × Nat) := BL 10 ++ BL 11 ++ [(3, 1)]
def ly (x : Nat) (q : Nat) : Nat × Nat := BLL.getD (q - x) (9, 9)
def M0 (x : Nat) : Mem := (fun q j => iv (ly x q) j, fun _ _ => 0, fun d => if d = 0 then x + 11 else if d = 1 then x + 3 else x + 5)
theorem i_exit {L k : Nat} (hL : L ≤ 3072) (hk : k ≤ 6000) (h : ¬ k + 6 ≤ L) : Int32.ofNat L - 6 < Int32.ofNat k := by
  have e1 : (Int32.ofNat L).toInt = L := Int32.toInt_ofNat_of_lt (by omega)
  have e2 : (Int32.ofNat k).toInt = k := Int32.toInt_ofNat_of_lt (by omega)
  have e3 : (6 : Int32).toInt = 6 := rfl
  rw [Int32.lt_iff_toInt_lt, Int32.toInt_sub, e1, e2, e3, Int.bmod_eq_of_le (by omega) (by omega)]
  omega
/-- the law's loop over an invariant of the pure functions -/
theorem law_run {G : Ctx} (hfl : (gl G).stackTraces = false) (hW : WFG G) {p : Program} {e : Env} {R : Room} {s : State} {m : MethodId} {args : Array Value} {below : List Frame} {meth : Method} {c : Code} {Q : State → Prop} {L b x : Nat} {xs : Nat → Int32} (hL : L ≤ 3072) (h0 : hs G x (0, 10)) (h1 : hs G (x + 95) (0, 11)) (ho : hs G (x + 122) (3, 1))
    (hB : p.tables.exec = Jvm.exec ∧ c.code = code ∧ c.maxLocals = 7 ∧ s.vm.findClass RL = some m.cls ∧ (∀ w ∈ gw, w.before args s = true) ∧ va_K (gD G) vwCl (gT G) s ∧ SK G s.heap.size s s.heap ∧ 200 ≤ R.frames ∧ 20000 ≤ R.locals ∧ 601024 ≤ R.cells ∧ 7293033 ≤ R.slots) (hb3 : va_X b L xs s s.heap ∧ b < s.heap.size ∧ ¬ gA G s.heap.size b)
    (hend : ∀ (kc ks : Nat) (M : Mem) (pc : Nat) (ls : List (Nat × Value)), kc ≤ 601024 → ks ≤ 7293033 → decode code pc = .ok (.ireturn, 1) → WX G p e R s m args below meth c 7 kc ks Q M pc ls [.int 1])
    (Inv : Mem → Prop) (hs : ∀ (k : Nat) (M : Mem), k + 6 ≤ L → Inv M → ∃ M', l_law L xs x (x + 95) (x + 122) (Int32.ofNat k) M = some (.inl (Int32.ofNat (k + 6), M')) ∧ Inv M') :
    ∀ (n k kc ks : Nat) (M : Mem), k ≤ 3072 → 3072 ≤ k + n → kc + n + 1 ≤ 601024 → ks + 6 * n + 6 ≤ 7293033 → Inv M → WX G p e R s m args below meth c 7 kc ks Q M 23 [(0, .ref b), (1, .ref x), (2, .ref (x + 95)), (3, .ref (x + 122)), (4, .int (Int32.ofNat k))] [] := by
  intro n
  induction n using Nat.strongRecOn with
  | _ n ih =>
    intro k kc ks M hk hn hc hS hI
    have h3 : RbW G code RL 7 200 20000 b L xs (WX G p e R s m args below meth c 7 kc ks Q) (WX G p e R s m args below meth c 7 (kc + 1) (ks + 6) Q) := by
      obtain ⟨a1, a2, a3, a4, a5, a6, a7, a8, a9, a10, a11⟩ := hB
      exact ⟨hW, p, e, R, s, m, args, below, meth, c, kc, ks, Q, ⟨a1, a2, a3, a4, a5, a6, a7, a8, a9, by omega, by omega⟩, hb3, rfl, rfl⟩
    have hE := law_body (M := M) (i := Int32.ofNat k) (F := 200) (Lo := 20000) hfl hW h0 h1 ho ⟨Nat.le_refl _, Nat.le_refl _⟩ h3
    by_cases hkL : k + 6 ≤ L
    · obtain ⟨M', e1, hI'⟩ := hs k M hkL hI
      refine hE _ e1 ?_
      have hn6 : 6 ≤ n := by omega
      exact ih (n - 6) (by omega) (k + 6) (kc + 1) (ks + 6) M' (by omega) (by omega) (by omega) (by omega) hI'
    · refine hE (.inr (1, M)) ?_ (fun pc ls d => hend _ _ M pc ls (by omega) (by omega) d)
      unfold l_law
      exact if_pos (i_exit hL (by omega) hkL)
theorem whole_start_of (Inv : Nat → Mem → Prop) (hI0 : ∀ x : Nat, ∃ M9 : Mem, f_X8_begin (x + 19) (x + 11) (M0 x) = some ((), M9) ∧ (∀ q, x + 95 ≤ q → (∀ j, M9.1 q j = (M0 x).1 q j) ∧ ∀ j, M9.2.1 q j = 0) ∧ Inv x M9)
    (hI : ∀ (x L : Nat) (xs : Nat → Int32) (k : Nat) (M : Mem), L ≤ 3072 → k + 6 ≤ L → Inv x M → ∃ M', l_law L xs x (x + 95) (x + 122) (Int32.ofNat k) M = some (.inl (Int32.ofNat (k + 6), M')) ∧ Inv x M')
    {p : Program} {e : Env} {s : State} {m : MethodId} {below : List Frame} {meth : Method} {c : Code} (l : Launch) (hflags : l.flags = flags0) {b L : Nat} {xs : Nat → Int32} (hL : L ≤ 3072) (C0 : lw_At p s m meth c b L xs) : W p l e room_1 s m #[Value.ref b] below meth c s.heap [] 0 0 (lw_Z below #[Value.ref b] s) (entryFrame m ([Value.ref b] : List Value).toArray 7) := by
  obtain ⟨hx, hb, hr, hml, hown, hts, hX, hbl, hlocks, hgv⟩ := id C0
  have hfl : l.stackTraces = false := by unfold Launch.stackTraces; rw [hflags]; decide +kernel
  have htg : ∀ w ∈ gw, w.before #[Value.ref b] s = true := fun w hw => hts w (List.mem_filter.mp hw).1
  obtain ⟨D, cA, aK, aV, hst⟩ := start_facts hts hgv
  generalize hxe : s.heap.size = x at *
  obtain ⟨hK, hSK, hAO⟩ := hst l (ly x)
  obtain ⟨M9, hf, hfr, hInv⟩ := hI0 x
  generalize hG : ((l, D, ly x, [], cA, aK, aV) : Ctx) = G at hK hSK
  have hGl : gl G = l := by rw [← hG]
  have hGy : glay G = ly x := by rw [← hG]
  have hG0 : gS G [] = G := by rw [← hG]; rfl
  have hLb : Lb G x BLL := fun k hk => by rw [hGy]; show BLL.getD (x + k - x) (9, 9) = _; rw [Nat.add_sub_cancel_left, List.getD_eq_getElem?_getD, List.getD_eq_getElem?_getD, List.getElem?_eq_getElem hk]; rfl
  have hL10 : Lb G x (BL 10) := hLb.sub (d := 0) rfl (by decide +kernel)
  have hL11 : Lb G (x + 95) (BL 11) := hLb.sub (d := 95) rfl (by decide +kernel)
  have hZ10 : Zm G (M0 x) x 95 := fun k hk => ⟨fun j => by rw [hGy]; rfl, fun j => rfl⟩
  have hZ11 : Zm G M9 (x + 95) 27 := fun k hk => ⟨fun j => by rw [(hfr _ (by omega)).1, hGy]; rfl, fun j => (hfr _ (by omega)).2 j⟩
  have hW : WFG (gS G (seg x 123)) := wf_BL (L := BLL) hLb (by decide +kernel)
  have h : Rk G [] code RL 7 2048 84000 601024 7293033 x False (WC G p e room_1 s m #[Value.ref b] below meth c 7 [] (lw_Z below #[Value.ref b] s)) :=
    ⟨⟨List.nodup_nil, fun a ha => by cases ha⟩, p, e, room_1, s, m, _, below, meth, c, _, ⟨hx, hb, hml, hown, htg, hK, by rw [hG0, hxe]; exact hSK, hAO, Nat.le_refl _, Nat.le_refl _, Nat.le_refl _, Nat.le_refl _⟩, hxe.symm, fun q => q.elim, rfl⟩
  have main : WC G p e room_1 s m #[Value.ref b] below meth c 7 [] (lw_Z below #[Value.ref b] s) [] [] M9 0 0 0 [(0, .ref b)] [] := by
    refine h.newO nw_RL_8 ⟨by decide, by decide⟩ dL_law_0 ?_
    refine h.dup dL_law_3 rfl ?_
    refine h.child (k_X10 (a := x + 0) hL10 hZ10 rfl rfl rfl hf) lm_X10_init in_X10 ll_RL_70 (Nat.le_of_ble_eq_true rfl) ⟨by decide, by decide⟩ ⟨by decide, by decide⟩ dL_law_4 ?_
    refine h.astore_n (k := 1) dL_law_7 (by decide) rfl ?_
    refine h.newO nw_RL_71 ⟨by decide, by decide⟩ dL_law_8 ?_
    refine h.dup dL_law_11 rfl ?_
    refine h.child (k_X11 (a := x + 95) hL11 hZ11) lm_X11_init in_X11 ll_RL_73 (Nat.le_of_ble_eq_true rfl) ⟨by decide, by decide⟩ ⟨by decide, by decide⟩ dL_law_12 ?_
    refine h.astore_n (k := 2) dL_law_15 (by decide) rfl ?_
    refine h.iconst (v := (1 : Int32)) dL_law_16 (by decide) ?_
    refine h.newJ (n := 1) ⟨by decide, by decide⟩ ⟨by decide, by decide, by decide⟩ dL_law_17 ?_
    refine h.absorb (ab_j (hLb.at (q := x + 122) (d := 122) rfl (by decide +kernel)) (hfr _ (by omega)).2) ?_
    refine h.astore_n (k := 3) dL_law_19 (by decide) rfl ?_
    refine h.iconst (v := (0 : Int32)) dL_law_20 (by decide) ?_
    refine h.istore dL_law_21 (by decide) rfl ?_
    refine h.sub (ls2 := [(0, .ref b), (1, .ref x), (2, .ref (x + 95)), (3, .ref (x + 122)), (4, .int 0)]) [4, 3, 2, 1, 0] rfl ?_
    have hx0 : hs (gS G (seg x 123)) x (0, 10) := hs9 hLb (d := 0) (by decide +kernel) (by decide)
    have hx1 : hs (gS G (seg x 123)) (x + 95) (0, 11) := hs9 hLb (d := 95) (by decide +kernel) (by decide)
    have hx2 : hs (gS G (seg x 123)) (x + 122) (3, 1) := hs9 hLb (d := 122) (by decide +kernel) (by decide)
    have hsub : ∀ q, gA (gS G (seg x 123)) x q → x ≤ q := fun q hq => by
      rcases hq with h1 | h1
      · exact (mem_seg.mp h1).1
      · exact h1
    have hsub2 : ∀ q, gA (gS G (seg x 123)) x q → gA (gS G []) x q := fun q hq => Or.inr (hsub q hq)
    have hrun := law_run (G := gS G (seg x 123)) (p := p) (e := e) (R := room_1) (s := s) (m := m) (args := #[Value.ref b]) (below := below) (meth := meth) (c := c) (Q := lw_Z below #[Value.ref b] s) (b := b) (xs := xs) (by rw [← hfl, ← hGl]; rfl) hW hL hx0 hx1 hx2
      ⟨hx, hb, hml, hown, htg, hK, by rw [hxe]; exact SK.sub hsub2 (by rw [hG0]; exact hSK), by decide, by decide, Nat.le_refl _, Nat.le_refl _⟩ ⟨hX, by omega, fun z => absurd (hsub b (by rw [hxe] at z; exact z)) (by omega)⟩
      (fun kc ks M pc ls h1 h2 d H locs lsA hP hS hl => by
        refine va_forget (fun q hq => by have h9 := hS.2.2 q hq; rw [hxe] at h9 ⊢; exact hsub _ h9) ?_
        refine W.widen (k := 601024) (n := 7293033) h1 h2 ?_
        exact lw_ret hx hb hr hlocks d)
      (Inv x) (fun k M hk hi => hI x L xs k M hL hk hi) 3072 0 123 (7372 + 6 + 52 + 72789 + 1) M9 (by decide) (by decide) (by decide) (by decide) hInv
    intro H locs lsA hX9 hE9 hP9 hS9 hl9
    refine hrun H locs lsA ?_ ⟨hS9.1, fun q h1 h2 => hS9.2.1 q h1 (fun z => h2 ?_), fun q hq => ?_⟩ hl9
    · rw [hxe, List.append_nil, List.nil_append] at hP9
      exact hP9
    · rw [hxe] at z ⊢
      rcases z with h1 | h1
      · cases h1
      · exact Or.inr h1
    · have h9 := hS9.2.2 q hq
      rw [hxe] at h9 ⊢
      rcases h9 with h1 | h1
      · cases h1
      · exact Or.inr h1
  rw [lg_entry_eq, ← hGl]
  exact main s.heap [] _ rfl rfl (fun k q hk => by cases hk) va_S.rf (lv_entry [.ref b] (Nat.le_of_ble_eq_true rfl))
