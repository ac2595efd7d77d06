def lkW (y : MethodName) (b : ByteArray) (mL : Nat) (hh : List (Nat × Nat × Nat × Nat)) (n : Nat) : Prop := Cond.codeWith y b mL (some .int) hh ∈ gw ∧ Cond.initialized y.cls ∈ gw ∧ Cond.static y ∈ gw ∧ (y.cls ≠ "java/lang/invoke/MethodHandle" ∧ y.cls ≠ "java/lang/invoke/VarHandle" ∧ (parseMethodDescriptor y.desc).map (fun d => d.parameters.length) = some n)
def RbW (G : Ctx) (cc : ByteArray) (own : String) (nL F Lo b L : Nat) (xs : Nat → Int32) (w w1 : Mem → Nat → List (Nat × Value) → List Value → Prop) : Prop :=
  WFG G ∧ ∃ (p : Program) (e : Env) (R : Room) (s : State) (m : MethodId) (args : Array Value) (below : List Frame) (meth : Method) (c : Code) (kc ks : Nat) (Q : State → Prop),
    (p.tables.exec = Jvm.exec ∧ c.code = cc ∧ c.maxLocals = nL ∧ s.vm.findClass own = some m.cls ∧ (∀ w ∈ gw, w.before args s = true) ∧ va_K (gD G) vwCl (gT G) s ∧ SK G s.heap.size s s.heap ∧ F ≤ R.frames ∧ Lo ≤ R.locals ∧ kc + 1 ≤ R.cells ∧ ks + 6 ≤ R.slots) ∧ (va_X b L xs s s.heap ∧ b < s.heap.size ∧ ¬ gA G s.heap.size b) ∧ w = WX G p e R s m args below meth c nL kc ks Q ∧ w1 = WX G p e R s m args below meth c nL (kc + 1) (ks + 6) Q
/-- the script can be read -/
def RbS (cc : ByteArray) (b L : Nat) (xs : Nat → Int32) (w : Mem → Nat → List (Nat × Value) → List Value → Prop) : Prop :=
  (∀ {M : Mem} {pc : Nat} {ls : List (Nat × Value)} {st : List Value} {i : Int32}, 0 ≤ i.toInt ∧ i.toInt < (L : Int) → decode cc pc = .ok (.iaload, 1) → w M (pc + 1) ls (.int (xs i.toNatClampNeg) :: st) → w M pc ls (.int i :: .ref b :: st)) ∧
  (∀ {M : Mem} {pc : Nat} {ls : List (Nat × Value)} {st : List Value}, decode cc pc = .ok (.arraylength, 1) → w M (pc + 1) ls (.int (Int32.ofNat L) :: st) → w M pc ls (.ref b :: st))
theorem RbS.sld {cc : ByteArray} {b L : Nat} {xs : Nat → Int32} {w : Mem → Nat → List (Nat × Value) → List Value → Prop} (h : RbS cc b L xs w) {M : Mem} {pc : Nat} {ls : List (Nat × Value)} {st : List Value} {i : Int32} (hi : 0 ≤ i.toInt ∧ i.toInt < (L : Int)) (d : decode cc pc = .ok (.iaload, 1)) (k : w M (pc + 1) ls (.int (xs i.toNatClampNeg) :: st)) : w M pc ls (.int i :: .ref b :: st) := h.1 hi d k
theorem RbS.slen {cc : ByteArray} {b L : Nat} {xs : Nat → Int32} {w : Mem → Nat → List (Nat × Value) → List Value → Prop} (h : RbS cc b L xs w) {M : Mem} {pc : Nat} {ls : List (Nat × Value)} {st : List Value} (d : decode cc pc = .ok (.arraylength, 1)) (k : w M (pc + 1) ls (.int (Int32.ofNat L) :: st)) : w M pc ls (.ref b :: st) := h.2 d k
section LAWR
variable {G : Ctx} {cc : ByteArray} {own : String} {nL F Lo b L : Nat} {xs : Nat → Int32} {w w1 : Mem → Nat → List (Nat × Value) → List Value → Prop} {M M' : Mem} {pc : Nat} {ls : List (Nat × Value)} {st : List Value}
theorem RbW.l (h : RbW G cc own nL F Lo b L xs w w1) : Rb G cc own nL F Lo w := by
  obtain ⟨hG, p, e, R, s, m, args, below, meth, c, kc, ks, Q, ⟨hx, hb, hml, hown, hts, hK, hSK, hF, hLo, hkc, hks⟩, ht, rfl, rfl⟩ := h
  exact ⟨hG, p, e, R, s, m, args, below, meth, c, kc, ks, Q, ⟨hx, hb, hml, hown, hts, hK, hSK, hF, hLo, by omega, by omega⟩, rfl⟩
theorem RbW.r (h : RbW G cc own nL F Lo b L xs w w1) : Rb G cc own nL F Lo w1 := by
  obtain ⟨hG, p, e, R, s, m, args, below, meth, c, kc, ks, Q, ⟨hx, hb, hml, hown, hts, hK, hSK, hF, hLo, hkc, hks⟩, ht, rfl, rfl⟩ := h
  exact ⟨hG, p, e, R, s, m, args, below, meth, c, kc + 1, ks + 6, Q, ⟨hx, hb, hml, hown, hts, hK, hSK, hF, hLo, hkc, hks⟩, rfl⟩
theorem RbW.wid (h : RbW G cc own nL F Lo b L xs w w1) (k : w1 M pc ls st) : w M pc ls st := by
  obtain ⟨hG, p, e, R, s, m, args, below, meth, c, kc, ks, Q, -, ht, rfl, rfl⟩ := h
  intro H locs lsA hP hS hl
  exact W.widen (k := kc + 1) (n := ks + 6) (by omega) (by omega) (k H locs lsA hP hS hl)
theorem RbW.sl (h : RbW G cc own nL F Lo b L xs w w1) : RbS cc b L xs w := by
  obtain ⟨hG, p, e, R, s, m, args, below, meth, c, kc, ks, Q, ⟨hx, hb, hml, hown, hts, hK, hSK, hF, hLo, hkc, hks⟩, ⟨hX, hbl, hbA⟩, rfl, rfl⟩ := h
  exact ⟨fun hi d k H locs lsA hP hS hl => va_sld hx hb hX hbl hbA hS (vp_in_iff.mpr hi) d (k H locs lsA hP hS hl), fun d k H locs lsA hP hS hl => va_slen hx hb hX hbl hbA hS d (k H locs lsA hP hS hl)⟩
theorem RbW.sr (h : RbW G cc own nL F Lo b L xs w w1) : RbS cc b L xs w1 := by
  obtain ⟨hG, p, e, R, s, m, args, below, meth, c, kc, ks, Q, ⟨hx, hb, hml, hown, hts, hK, hSK, hF, hLo, hkc, hks⟩, ⟨hX, hbl, hbA⟩, rfl, rfl⟩ := h
  exact ⟨fun hi d k H locs lsA hP hS hl => va_sld hx hb hX hbl hbA hS (vp_in_iff.mpr hi) d (k H locs lsA hP hS hl), fun d k H locs lsA hP hS hl => va_slen hx hb hX hbl hbA hS d (k H locs lsA hP hS hl)⟩
theorem RbW.callW (h : RbW G cc own nL F Lo b L xs w w1) {y : MethodName} {bb : ByteArray} {mL F' Lo' n idx : Nat} {hh : List (Nat × Nat × Nat × Nat)} {r : Int32} {As rest : List Value} (hc : CtW G y bb mL hh F' Lo' As M r M') (hm : lkW y bb mL hh n) (hl : Cond.methodLink own idx y ∈ gw) (hn : As.length = n) (hst : st = As.reverse ++ rest) (hr : (rest.map fun v => v.category).sum ≤ 8) (hF : F' + 1 ≤ F ∧ 8 + (mL + 11) + Lo' ≤ Lo) (d : decode cc pc = .ok (.invokestatic idx, 3)) (kk : w1 M' (pc + 3) ls (.int r :: rest)) : w M pc ls st := by
  obtain ⟨hG, p, e, R, s, m, args, below, meth, c, kc, ks, Q, ⟨hx, hb, hml, hown, hts, hK, hSK, hFR, hLR, hkc, hks⟩, hsc, rfl, rfl⟩ := h
  intro H locs lsA hP hS hl'
  have hg : GoodIn gw (va_wsS own idx y (wsH y bb mL (some .int) hh)) := by
    intro z hz
    have hz2 : z ∈ gw := by
      rcases List.mem_append.mp hz with h9 | h9
      · simp only [List.mem_cons, List.not_mem_nil, or_false] at h9
        rcases h9 with rfl | rfl | rfl
        · exact hl
        · exact hm.2.2.1
        · exact hm.2.1
      · rcases List.mem_cons.mp h9 with rfl | h9
        · exact hm.1
        · exact h9
    exact ⟨hz2, good_of_word (List.mem_filter.mp hz2).2⟩
  have hrun := vx_runSW (As := As) (rest := rest) (H := H) (locs := locs) (below := below) (e := e) (meth := meth) (g := F0 m pc lsA st) (cells := kc) (slots := ks) ⟨hx, hb, hml, hown, hts⟩ (hc H.size) (vx_cwSW n hts hg rfl rfl rfl hm.2.2.2 ⟨Nat.le_trans hF.1 hFR, Nat.le_trans hF.2 hLR⟩) ⟨Pcm.blind, pcm_at hP hS hK hSK As⟩ rfl hn hl'.1 hst (lv_room hr) d ⟨hkc, hks⟩
  have hA : ∀ q, gA G H.size q → gA G s.heap.size q := gA_sub hS.1
  intro T hT X
  obtain ⟨v, st₀, t, T', L9, h0, X', hL, e1, e2, ⟨⟨hv, hP1⟩, hz, hk⟩, stp⟩ := hrun T hT X
  obtain rfl : v = some (.int r) := by cases hv; rfl
  rw [h0] at hz hk
  obtain ⟨t2, a1, b1⟩ := kk T'.heap (locs ++ L9) lsA (by rw [e1]; exact hP1)
    ⟨Nat.le_trans hS.1 (by rw [e1]; exact hz), fun q h1 h2 => by rw [e1, hk q (Nat.lt_of_lt_of_le h1 hS.1) (fun z => h2 (hA q z))]; exact hS.2.1 q h1 h2, fun q hq => by
      rcases List.mem_append.mp hq with h | h
      · exact hS.2.2 q h
      · exact hA _ (hL q h)⟩ hl' T' rfl X'
  exact ⟨t2, stp t2 a1, b1⟩
end LAWR
theorem lm_X11_feed : lkM yX11_feed cX11_feed 8 (some .int) 5 := ⟨gin 1592 (by decide +kernel) rfl, gin 102 (by decide +kernel) rfl, by decide +kernel⟩
theorem lv_m_X11_feed : Cond.instanceMethod yX11_feed ∈ gw ∧ Cond.selects (yX11_feed).cls yX11_feed yX11_feed ∈ gw := ⟨gin 1590 (by decide +kernel) rfl, gin 1591 (by decide +kernel) rfl⟩
theorem ll_RL_78 : Cond.methodLink RL 78 yX11_feed ∈ gw := gin 1589 (by decide +kernel) rfl
theorem lm_X10_feed : lkM yX10_feed cX10_feed 6 (some .int) 5 := ⟨gin 639 (by decide +kernel) rfl, gin 90 (by decide +kernel) rfl, by decide +kernel⟩
theorem lv_m_X10_feed : Cond.instanceMethod yX10_feed ∈ gw ∧ Cond.selects (yX10_feed).cls yX10_feed yX10_feed ∈ gw := ⟨gin 637 (by decide +kernel) rfl, gin 638 (by decide +kernel) rfl⟩
theorem ll_RL_74 : Cond.methodLink RL 74 yX10_feed ∈ gw := gin 636 (by decide +kernel) rfl
theorem lm_X11_thrown : lkM yX11_thrown cX11_thrown 1 (some .int) 0 := ⟨gin 1588 (by decide +kernel) rfl, gin 102 (by decide +kernel) rfl, by decide +kernel⟩
theorem lv_m_X11_thrown : Cond.instanceMethod yX11_thrown ∈ gw ∧ Cond.selects (yX11_thrown).cls yX11_thrown yX11_thrown ∈ gw := ⟨gin 1586 (by decide +kernel) rfl, gin 1587 (by decide +kernel) rfl⟩
theorem ll_RL_85 : Cond.methodLink RL 85 yX11_thrown ∈ gw := gin 1585 (by decide +kernel) rfl
theorem lm_X11_line : lkM yX11_line cX11_line 3 (some .int) 1 := ⟨gin 1596 (by decide +kernel) rfl, gin 102 (by decide +kernel) rfl, by decide +kernel⟩
theorem lv_m_X11_line : Cond.instanceMethod yX11_line ∈ gw ∧ Cond.selects (yX11_line).cls yX11_line yX11_line ∈ gw := ⟨gin 1594 (by decide +kernel) rfl, gin 1595 (by decide +kernel) rfl⟩
theorem ll_RL_84 : Cond.methodLink RL 84 yX11_line ∈ gw := gin 1593 (by decide +kernel) rfl
theorem lw_L_line : lkW yL_line cL_line 4 [(0, 9, 12, 13)] 3 := ⟨gin 901 (by decide +kernel) rfl, gin 89 (by decide +kernel) rfl, gin 900 (by decide +kernel) rfl, by decide +kernel⟩
theorem ll_RL_79 : Cond.methodLink RL 79 yL_line ∈ gw := gin 899 (by decide +kernel) rfl
theorem lm_X11_fault : lkM yX11_fault cX11_fault 1 (some .int) 0 := ⟨gin 1718 (by decide +kernel) rfl, gin 102 (by decide +kernel) rfl, by decide +kernel⟩
theorem lv_m_X11_fault : Cond.instanceMethod yX11_fault ∈ gw ∧ Cond.selects (yX11_fault).cls yX11_fault yX11_fault ∈ gw := ⟨gin 1716 (by decide +kernel) rfl, gin 1717 (by decide +kernel) rfl⟩
theorem ll_RL_92 : Cond.methodLink RL 92 yX11_fault ∈ gw := gin 1715 (by decide +kernel) rfl
theorem lm_X10_fault : lkM yX10_fault cX10_fault 1 (some .int) 0 := ⟨gin 648 (by decide +kernel) rfl, gin 90 (by decide +kernel) rfl, by decide +kernel⟩
theorem lv_m_X10_fault : Cond.instanceMethod yX10_fault ∈ gw ∧ Cond.selects (yX10_fault).cls yX10_fault yX10_fault ∈ gw := ⟨gin 646 (by decide +kernel) rfl, gin 647 (by decide +kernel) rfl⟩
theorem ll_RL_89 : Cond.methodLink RL 89 yX10_fault ∈ gw := gin 645 (by decide +kernel) rfl
theorem lm_X11_count : lkM yX11_count cX11_count 2 (some .int) 1 := ⟨gin 1722 (by decide +kernel) rfl, gin 102 (by decide +kernel) rfl, by decide +kernel⟩
theorem lv_m_X11_count : Cond.instanceMethod yX11_count ∈ gw ∧ Cond.selects (yX11_count).cls yX11_count yX11_count ∈ gw := ⟨gin 1720 (by decide +kernel) rfl, gin 1721 (by decide +kernel) rfl⟩
theorem ll_RL_95 : Cond.methodLink RL 95 yX11_count ∈ gw := gin 1719 (by decide +kernel) rfl
theorem lw_L_count : lkW yL_count cL_count 4 [(0, 9, 12, 18)] 3 := ⟨gin 1121 (by decide +kernel) rfl, gin 89 (by decide +kernel) rfl, gin 1120 (by decide +kernel) rfl, by decide +kernel⟩
theorem ll_RL_93 : Cond.methodLink RL 93 yL_count ∈ gw := gin 1119 (by decide +kernel) rfl
theorem lm_X11_set : lkM yX11_set cX11_set 2 (some .int) 1 := ⟨gin 1743 (by decide +kernel) rfl, gin 102 (by decide +kernel) rfl, by decide +kernel⟩
theorem lv_m_X11_set : Cond.instanceMethod yX11_set ∈ gw ∧ Cond.selects (yX11_set).cls yX11_set yX11_set ∈ gw := ⟨gin 1741 (by decide +kernel) rfl, gin 1742 (by decide +kernel) rfl⟩
theorem ll_RL_98 : Cond.methodLink RL 98 yX11_set ∈ gw := gin 1740 (by decide +kernel) rfl
theorem lw_L_set : lkW yL_set cL_set 4 [(0, 9, 12, 18)] 3 := ⟨gin 1160 (by decide +kernel) rfl, gin 89 (by decide +kernel) rfl, gin 1159 (by decide +kernel) rfl, by decide +kernel⟩
theorem ll_RL_96 : Cond.methodLink RL 96 yL_set ∈ gw := gin 1158 (by decide +kernel) rfl
theorem lm_X11_flying : lkM yX11_flying cX11_flying 3 (some .int) 2 := ⟨gin 1747 (by decide +kernel) rfl, gin 102 (by decide +kernel) rfl, by decide +kernel⟩
theorem lv_m_X11_flying : Cond.instanceMethod yX11_flying ∈ gw ∧ Cond.selects (yX11_flying).cls yX11_flying yX11_flying ∈ gw := ⟨gin 1745 (by decide +kernel) rfl, gin 1746 (by decide +kernel) rfl⟩
theorem ll_RL_102 : Cond.methodLink RL 102 yX11_flying ∈ gw := gin 1744 (by decide +kernel) rfl
theorem lw_L_flying : lkW yL_flying cL_flying 5 [(0, 10, 13, 18)] 4 := ⟨gin 1169 (by decide +kernel) rfl, gin 89 (by decide +kernel) rfl, gin 1168 (by decide +kernel) rfl, by decide +kernel⟩
theorem ll_RL_99 : Cond.methodLink RL 99 yL_flying ∈ gw := gin 1167 (by decide +kernel) rfl
theorem lm_X11_slot : lkM yX11_slot cX11_slot 2 (some .int) 1 := ⟨gin 1755 (by decide +kernel) rfl, gin 102 (by decide +kernel) rfl, by decide +kernel⟩
theorem lv_m_X11_slot : Cond.instanceMethod yX11_slot ∈ gw ∧ Cond.selects (yX11_slot).cls yX11_slot yX11_slot ∈ gw := ⟨gin 1753 (by decide +kernel) rfl, gin 1754 (by decide +kernel) rfl⟩
theorem ll_RL_105 : Cond.methodLink RL 105 yX11_slot ∈ gw := gin 1752 (by decide +kernel) rfl
theorem lw_L_slot : lkW yL_slot cL_slot 4 [(0, 9, 12, 18)] 3 := ⟨gin 1177 (by decide +kernel) rfl, gin 89 (by decide +kernel) rfl, gin 1176 (by decide +kernel) rfl, by decide +kernel⟩
theorem ll_RL_103 : Cond.methodLink RL 103 yL_slot ∈ gw := gin 1175 (by decide +kernel) rfl
theorem lm_X11_played : lkM yX11_played cX11_played 3 (some .int) 2 := ⟨gin 1760 (by decide +kernel) rfl, gin 102 (by decide +kernel) rfl, by decide +kernel⟩
theorem lv_m_X11_played : Cond.instanceMethod yX11_played ∈ gw ∧ Cond.selects (yX11_played).cls yX11_played yX11_played ∈ gw := ⟨gin 1758 (by decide +kernel) rfl, gin 1759 (by decide +kernel) rfl⟩
theorem ll_RL_108 : Cond.methodLink RL 108 yX11_played ∈ gw := gin 1757 (by decide +kernel) rfl
theorem lw_L_played : lkW yL_played cL_played 5 [(0, 10, 13, 18)] 4 := ⟨gin 1189 (by decide +kernel) rfl, gin 89 (by decide +kernel) rfl, gin 1188 (by decide +kernel) rfl, by decide +kernel⟩
theorem ll_RL_106 : Cond.methodLink RL 106 yL_played ∈ gw := gin 1187 (by decide +kernel) rfl
theorem lm_X11_spans : lkM yX11_spans cX11_spans 7 (some .int) 2 := ⟨gin 1768 (by decide +kernel) rfl, gin 102 (by decide +kernel) rfl, by decide +kernel⟩
theorem lv_m_X11_spans : Cond.instanceMethod yX11_spans ∈ gw ∧ Cond.selects (yX11_spans).cls yX11_spans yX11_spans ∈ gw := ⟨gin 1766 (by decide +kernel) rfl, gin 1767 (by decide +kernel) rfl⟩
theorem ll_RL_111 : Cond.methodLink RL 111 yX11_spans ∈ gw := gin 1765 (by decide +kernel) rfl
theorem lw_L_spans : lkW yL_spans cL_spans 5 [(0, 10, 13, 18), (0, 10, 17, 13)] 4 := ⟨gin 1203 (by decide +kernel) rfl, gin 89 (by decide +kernel) rfl, gin 1202 (by decide +kernel) rfl, by decide +kernel⟩
theorem ll_RL_109 : Cond.methodLink RL 109 yL_spans ∈ gw := gin 1201 (by decide +kernel) rfl
theorem lm_X11_sample : lkM yX11_sample cX11_sample 2 (some .int) 1 := ⟨gin 1773 (by decide +kernel) rfl, gin 102 (by decide +kernel) rfl, by decide +kernel⟩
theorem lv_m_X11_sample : Cond.instanceMethod yX11_sample ∈ gw ∧ Cond.selects (yX11_sample).cls yX11_sample yX11_sample ∈ gw := ⟨gin 1771 (by decide +kernel) rfl, gin 1772 (by decide +kernel) rfl⟩
theorem ll_RL_114 : Cond.methodLink RL 114 yX11_sample ∈ gw := gin 1770 (by decide +kernel) rfl
theorem lw_L_sample : lkW yL_sample cL_sample 4 [(0, 9, 12, 18)] 3 := ⟨gin 1217 (by decide +kernel) rfl, gin 89 (by decide +kernel) rfl, gin 1216 (by decide +kernel) rfl, by decide +kernel⟩
theorem ll_RL_112 : Cond.methodLink RL 112 yL_sample ∈ gw := gin 1215 (by decide +kernel) rfl
theorem lm_X11_wander : lkM yX11_wander cX11_wander 6 (some .int) 1 := ⟨gin 1781 (by decide +kernel) rfl, gin 102 (by decide +kernel) rfl, by decide +kernel⟩
theorem lv_m_X11_wander : Cond.instanceMethod yX11_wander ∈ gw ∧ Cond.selects (yX11_wander).cls yX11_wander yX11_wander ∈ gw := ⟨gin 1779 (by decide +kernel) rfl, gin 1780 (by decide +kernel) rfl⟩
theorem ll_RL_117 : Cond.methodLink RL 117 yX11_wander ∈ gw := gin 1778 (by decide +kernel) rfl
theorem lw_L_wander : lkW yL_wander cL_wander 4 [(0, 9, 12, 13)] 3 := ⟨gin 1230 (by decide +kernel) rfl, gin 89 (by decide +kernel) rfl, gin 1229 (by decide +kernel) rfl, by decide +kernel⟩
theorem ll_RL_115 : Cond.methodLink RL 115 yL_wander ∈ gw := gin 1228 (by decide +kernel) rfl
theorem lm_X11_steps : lkM yX11_steps cX11_steps 2 (some .int) 1 := ⟨gin 1791 (by decide +kernel) rfl, gin 102 (by decide +kernel) rfl, by decide +kernel⟩
theorem lv_m_X11_steps : Cond.instanceMethod yX11_steps ∈ gw ∧ Cond.selects (yX11_steps).cls yX11_steps yX11_steps ∈ gw := ⟨gin 1789 (by decide +kernel) rfl, gin 1790 (by decide +kernel) rfl⟩
theorem ll_RL_121 : Cond.methodLink RL 121 yX11_steps ∈ gw := gin 1788 (by decide +kernel) rfl
theorem lm_X10_steps : lkM yX10_steps cX10_steps 2 (some .int) 1 := ⟨gin 652 (by decide +kernel) rfl, gin 90 (by decide +kernel) rfl, by decide +kernel⟩
theorem lv_m_X10_steps : Cond.instanceMethod yX10_steps ∈ gw ∧ Cond.selects (yX10_steps).cls yX10_steps yX10_steps ∈ gw := ⟨gin 650 (by decide +kernel) rfl, gin 651 (by decide +kernel) rfl⟩
theorem ll_RL_118 : Cond.methodLink RL 118 yX10_steps ∈ gw := gin 649 (by decide +kernel) rfl
theorem lm_X11_lose : lkM yX11_lose cX11_lose 2 (some .int) 1 := ⟨gin 1866 (by decide +kernel) rfl, gin 102 (by decide +kernel) rfl, by decide +kernel⟩
theorem lv_m_X11_lose : Cond.instanceMethod yX11_lose ∈ gw ∧ Cond.selects (yX11_lose).cls yX11_lose yX11_lose ∈ gw := ⟨gin 1864 (by decide +kernel) rfl, gin 1865 (by decide +kernel) rfl⟩
theorem ll_RL_125 : Cond.methodLink RL 125 yX11_lose ∈ gw := gin 1863 (by decide +kernel) rfl
theorem lm_X10_lose : lkM yX10_lose cX10_lose 3 (some .int) 1 := ⟨gin 817 (by decide +kernel) rfl, gin 90 (by decide +kernel) rfl, by decide +kernel⟩
theorem lv_m_X10_lose : Cond.instanceMethod yX10_lose ∈ gw ∧ Cond.selects (yX10_lose).cls yX10_lose yX10_lose ∈ gw := ⟨gin 815 (by decide +kernel) rfl, gin 816 (by decide +kernel) rfl⟩
theorem ll_RL_122 : Cond.methodLink RL 122 yX10_lose ∈ gw := gin 814 (by decide +kernel) rfl
theorem lm_X11_stall : lkM yX11_stall cX11_stall 2 (some .int) 1 := ⟨gin 1874 (by decide +kernel) rfl, gin 102 (by decide +kernel) rfl, by decide +kernel⟩
theorem lv_m_X11_stall : Cond.instanceMethod yX11_stall ∈ gw ∧ Cond.selects (yX11_stall).cls yX11_stall yX11_stall ∈ gw := ⟨gin 1872 (by decide +kernel) rfl, gin 1873 (by decide +kernel) rfl⟩
theorem ll_RL_129 : Cond.methodLink RL 129 yX11_stall ∈ gw := gin 1871 (by decide +kernel) rfl
theorem lm_X10_stall : lkM yX10_stall cX10_stall 3 (some .int) 1 := ⟨gin 821 (by decide +kernel) rfl, gin 90 (by decide +kernel) rfl, by decide +kernel⟩
theorem lv_m_X10_stall : Cond.instanceMethod yX10_stall ∈ gw ∧ Cond.selects (yX10_stall).cls yX10_stall yX10_stall ∈ gw := ⟨gin 819 (by decide +kernel) rfl, gin 820 (by decide +kernel) rfl⟩
theorem ll_RL_126 : Cond.methodLink RL 126 yX10_stall ∈ gw := gin 818 (by decide +kernel) rfl
theorem lm_X11_turn : lkM yX11_turn cX11_turn 3 (some .int) 2 := ⟨gin 1878 (by decide +kernel) rfl, gin 102 (by decide +kernel) rfl, by decide +kernel⟩
theorem lv_m_X11_turn : Cond.instanceMethod yX11_turn ∈ gw ∧ Cond.selects (yX11_turn).cls yX11_turn yX11_turn ∈ gw := ⟨gin 1876 (by decide +kernel) rfl, gin 1877 (by decide +kernel) rfl⟩
theorem ll_RL_132 : Cond.methodLink RL 132 yX11_turn ∈ gw := gin 1875 (by decide +kernel) rfl
theorem lw_L_turn : lkW yL_turn cL_turn 5 [(0, 10, 13, 18)] 4 := ⟨gin 1248 (by decide +kernel) rfl, gin 89 (by decide +kernel) rfl, gin 1247 (by decide +kernel) rfl, by decide +kernel⟩
theorem ll_RL_130 : Cond.methodLink RL 130 yL_turn ∈ gw := gin 1246 (by decide +kernel) rfl
theorem lm_X11_undo : lkM yX11_undo cX11_undo 2 (some .int) 0 := ⟨gin 1882 (by decide +kernel) rfl, gin 102 (by decide +kernel) rfl, by decide +kernel⟩
theorem lv_m_X11_undo : Cond.instanceMethod yX11_undo ∈ gw ∧ Cond.selects (yX11_undo).cls yX11_undo yX11_undo ∈ gw := ⟨gin 1880 (by decide +kernel) rfl, gin 1881 (by decide +kernel) rfl⟩
theorem ll_RL_136 : Cond.methodLink RL 136 yX11_undo ∈ gw := gin 1879 (by decide +kernel) rfl
theorem lm_X10_undo : lkM yX10_undo cX10_undo 1 (some .int) 0 := ⟨gin 825 (by decide +kernel) rfl, gin 90 (by decide +kernel) rfl, by decide +kernel⟩
theorem lv_m_X10_undo : Cond.instanceMethod yX10_undo ∈ gw ∧ Cond.selects (yX10_undo).cls yX10_undo yX10_undo ∈ gw := ⟨gin 823 (by decide +kernel) rfl, gin 824 (by decide +kernel) rfl⟩
theorem ll_RL_133 : Cond.methodLink RL 133 yX10_undo ∈ gw := gin 822 (by decide +kernel) rfl
theorem lm_X11_then : lkM yX11_then cX11_then 3 (some .int) 2 := ⟨gin 1886 (by decide +kernel) rfl, gin 102 (by decide +kernel) rfl, by decide +kernel⟩
theorem lv_m_X11_then : Cond.instanceMethod yX11_then ∈ gw ∧ Cond.selects (yX11_then).cls yX11_then yX11_then ∈ gw := ⟨gin 1884 (by decide +kernel) rfl, gin 1885 (by decide +kernel) rfl⟩
theorem ll_RL_139 : Cond.methodLink RL 139 yX11_then ∈ gw := gin 1883 (by decide +kernel) rfl
theorem lw_L_then : lkW yL_then cL_then 5 [(0, 10, 13, 18), (0, 10, 17, 13)] 4 := ⟨gin 1263 (by decide +kernel) rfl, gin 89 (by decide +kernel) rfl, gin 1262 (by decide +kernel) rfl, by decide +kernel⟩
theorem ll_RL_137 : Cond.methodLink RL 137 yL_then ∈ gw := gin 1261 (by decide +kernel) rfl
theorem lm_X11_when : lkM yX11_when cX11_when 3 (some .int) 1 := ⟨gin 1903 (by decide +kernel) rfl, gin 102 (by decide +kernel) rfl, by decide +kernel⟩
theorem lv_m_X11_when : Cond.instanceMethod yX11_when ∈ gw ∧ Cond.selects (yX11_when).cls yX11_when yX11_when ∈ gw := ⟨gin 1901 (by decide +kernel) rfl, gin 1902 (by decide +kernel) rfl⟩
theorem ll_RL_142 : Cond.methodLink RL 142 yX11_when ∈ gw := gin 1900 (by decide +kernel) rfl
theorem lw_L_when : lkW yL_when cL_when 4 [(0, 9, 12, 18)] 3 := ⟨gin 1277 (by decide +kernel) rfl, gin 89 (by decide +kernel) rfl, gin 1276 (by decide +kernel) rfl, by decide +kernel⟩
theorem ll_RL_140 : Cond.methodLink RL 140 yL_when ∈ gw := gin 1275 (by decide +kernel) rfl
theorem lm_X11_settles : lkM yX11_settles cX11_settles 3 (some .int) 0 := ⟨gin 1912 (by decide +kernel) rfl, gin 102 (by decide +kernel) rfl, by decide +kernel⟩
theorem lv_m_X11_settles : Cond.instanceMethod yX11_settles ∈ gw ∧ Cond.selects (yX11_settles).cls yX11_settles yX11_settles ∈ gw := ⟨gin 1910 (by decide +kernel) rfl, gin 1911 (by decide +kernel) rfl⟩
theorem ll_RL_146 : Cond.methodLink RL 146 yX11_settles ∈ gw := gin 1909 (by decide +kernel) rfl
theorem lm_X10_settles : lkM yX10_settles cX10_settles 1 (some .int) 0 := ⟨gin 859 (by decide +kernel) rfl, gin 90 (by decide +kernel) rfl, by decide +kernel⟩
theorem lv_m_X10_settles : Cond.instanceMethod yX10_settles ∈ gw ∧ Cond.selects (yX10_settles).cls yX10_settles yX10_settles ∈ gw := ⟨gin 857 (by decide +kernel) rfl, gin 858 (by decide +kernel) rfl⟩
theorem ll_RL_143 : Cond.methodLink RL 143 yX10_settles ∈ gw := gin 856 (by decide +kernel) rfl
theorem lm_X11_toAim : lkM yX11_toAim cX11_toAim 5 (some .int) 2 := ⟨gin 1921 (by decide +kernel) rfl, gin 102 (by decide +kernel) rfl, by decide +kernel⟩
theorem lv_m_X11_toAim : Cond.instanceMethod yX11_toAim ∈ gw ∧ Cond.selects (yX11_toAim).cls yX11_toAim yX11_toAim ∈ gw := ⟨gin 1919 (by decide +kernel) rfl, gin 1920 (by decide +kernel) rfl⟩
theorem ll_RL_149 : Cond.methodLink RL 149 yX11_toAim ∈ gw := gin 1918 (by decide +kernel) rfl
theorem lw_L_toAim : lkW yL_toAim cL_toAim 5 [(0, 10, 13, 18), (0, 10, 17, 13)] 4 := ⟨gin 1296 (by decide +kernel) rfl, gin 89 (by decide +kernel) rfl, gin 1295 (by decide +kernel) rfl, by decide +kernel⟩
theorem ll_RL_147 : Cond.methodLink RL 147 yL_toAim ∈ gw := gin 1294 (by decide +kernel) rfl
theorem lm_X11_toGain : lkM yX11_toGain cX11_toGain 5 (some .int) 2 := ⟨gin 1929 (by decide +kernel) rfl, gin 102 (by decide +kernel) rfl, by decide +kernel⟩
theorem lv_m_X11_toGain : Cond.instanceMethod yX11_toGain ∈ gw ∧ Cond.selects (yX11_toGain).cls yX11_toGain yX11_toGain ∈ gw := ⟨gin 1927 (by decide +kernel) rfl, gin 1928 (by decide +kernel) rfl⟩
theorem ll_RL_152 : Cond.methodLink RL 152 yX11_toGain ∈ gw := gin 1926 (by decide +kernel) rfl
theorem lw_L_toGain : lkW yL_toGain cL_toGain 5 [(0, 10, 13, 18), (0, 10, 17, 13)] 4 := ⟨gin 1312 (by decide +kernel) rfl, gin 89 (by decide +kernel) rfl, gin 1311 (by decide +kernel) rfl, by decide +kernel⟩
theorem ll_RL_150 : Cond.methodLink RL 150 yL_toGain ∈ gw := gin 1310 (by decide +kernel) rfl
theorem lm_X11_note : lkM yX11_note cX11_note 3 (some .int) 2 := ⟨gin 1937 (by decide +kernel) rfl, gin 102 (by decide +kernel) rfl, by decide +kernel⟩
theorem lv_m_X11_note : Cond.instanceMethod yX11_note ∈ gw ∧ Cond.selects (yX11_note).cls yX11_note yX11_note ∈ gw := ⟨gin 1935 (by decide +kernel) rfl, gin 1936 (by decide +kernel) rfl⟩
theorem ll_RL_156 : Cond.methodLink RL 156 yX11_note ∈ gw := gin 1934 (by decide +kernel) rfl
theorem lm_X10_note : lkM yX10_note cX10_note 3 (some .int) 2 := ⟨gin 877 (by decide +kernel) rfl, gin 90 (by decide +kernel) rfl, by decide +kernel⟩
theorem lv_m_X10_note : Cond.instanceMethod yX10_note ∈ gw ∧ Cond.selects (yX10_note).cls yX10_note yX10_note ∈ gw := ⟨gin 875 (by decide +kernel) rfl, gin 876 (by decide +kernel) rfl⟩
theorem ll_RL_153 : Cond.methodLink RL 153 yX10_note ∈ gw := gin 874 (by decide +kernel) rfl
theorem lm_X11_other : lkM yX11_other cX11_other 2 (some .int) 1 := ⟨gin 1943 (by decide +kernel) rfl, gin 102 (by decide +kernel) rfl, by decide +kernel⟩
theorem lv_m_X11_other : Cond.instanceMethod yX11_other ∈ gw ∧ Cond.selects (yX11_other).cls yX11_other yX11_other ∈ gw := ⟨gin 1941 (by decide +kernel) rfl, gin 1942 (by decide +kernel) rfl⟩
theorem ll_RL_159 : Cond.methodLink RL 159 yX11_other ∈ gw := gin 1940 (by decide +kernel) rfl
theorem lw_L_other : lkW yL_other cL_other 4 [(0, 9, 12, 18)] 3 := ⟨gin 1328 (by decide +kernel) rfl, gin 89 (by decide +kernel) rfl, gin 1327 (by decide +kernel) rfl, by decide +kernel⟩
theorem ll_RL_157 : Cond.methodLink RL 157 yL_other ∈ gw := gin 1326 (by decide +kernel) rfl
theorem lm_X11_look : lkM yX11_look cX11_look 6 (some .int) 1 := ⟨gin 1955 (by decide +kernel) rfl, gin 102 (by decide +kernel) rfl, by decide +kernel⟩
theorem lv_m_X11_look : Cond.instanceMethod yX11_look ∈ gw ∧ Cond.selects (yX11_look).cls yX11_look yX11_look ∈ gw := ⟨gin 1953 (by decide +kernel) rfl, gin 1954 (by decide +kernel) rfl⟩
theorem ll_RL_162 : Cond.methodLink RL 162 yX11_look ∈ gw := gin 1952 (by decide +kernel) rfl
theorem lw_L_look : lkW yL_look cL_look 4 [(0, 9, 12, 18)] 3 := ⟨gin 1356 (by decide +kernel) rfl, gin 89 (by decide +kernel) rfl, gin 1355 (by decide +kernel) rfl, by decide +kernel⟩
theorem ll_RL_160 : Cond.methodLink RL 160 yL_look ∈ gw := gin 1354 (by decide +kernel) rfl
theorem lm_X11_forget : lkM yX11_forget cX11_forget 1 none 0 := ⟨gin 1963 (by decide +kernel) rfl, gin 102 (by decide +kernel) rfl, by decide +kernel⟩
theorem lv_m_X11_forget : Cond.instanceMethod yX11_forget ∈ gw ∧ Cond.selects (yX11_forget).cls yX11_forget yX11_forget ∈ gw := ⟨gin 1961 (by decide +kernel) rfl, gin 1962 (by decide +kernel) rfl⟩
theorem ll_RL_166 : Cond.methodLink RL 166 yX11_forget ∈ gw := gin 1960 (by decide +kernel) rfl
theorem lm_X10_forget : lkM yX10_forget cX10_forget 1 none 0 := ⟨gin 885 (by decide +kernel) rfl, gin 90 (by decide +kernel) rfl, by decide +kernel⟩
theorem lv_m_X10_forget : Cond.instanceMethod yX10_forget ∈ gw ∧ Cond.selects (yX10_forget).cls yX10_forget yX10_forget ∈ gw := ⟨gin 883 (by decide +kernel) rfl, gin 884 (by decide +kernel) rfl⟩
theorem ll_RL_163 : Cond.methodLink RL 163 yX10_forget ∈ gw := gin 882 (by decide +kernel) rfl
theorem lm_X11_storms : lkM yX11_storms cX11_storms 7 (some .int) 2 := ⟨gin 1967 (by decide +kernel) rfl, gin 102 (by decide +kernel) rfl, by decide +kernel⟩
theorem lv_m_X11_storms : Cond.instanceMethod yX11_storms ∈ gw ∧ Cond.selects (yX11_storms).cls yX11_storms yX11_storms ∈ gw := ⟨gin 1965 (by decide +kernel) rfl, gin 1966 (by decide +kernel) rfl⟩
theorem ll_RL_169 : Cond.methodLink RL 169 yX11_storms ∈ gw := gin 1964 (by decide +kernel) rfl
theorem lw_L_storms : lkW yL_storms cL_storms 5 [(0, 10, 13, 13)] 4 := ⟨gin 1367 (by decide +kernel) rfl, gin 89 (by decide +kernel) rfl, gin 1366 (by decide +kernel) rfl, by decide +kernel⟩
theorem ll_RL_167 : Cond.methodLink RL 167 yL_storms ∈ gw := gin 1365 (by decide +kernel) rfl
theorem lm_X11_years : lkM yX11_years cX11_years 7 (some .int) 3 := ⟨gin 1972 (by decide +kernel) rfl, gin 102 (by decide +kernel) rfl, by decide +kernel⟩
theorem lv_m_X11_years : Cond.instanceMethod yX11_years ∈ gw ∧ Cond.selects (yX11_years).cls yX11_years yX11_years ∈ gw := ⟨gin 1970 (by decide +kernel) rfl, gin 1971 (by decide +kernel) rfl⟩
theorem ll_RL_173 : Cond.methodLink RL 173 yX11_years ∈ gw := gin 1969 (by decide +kernel) rfl
theorem lw_L_years : lkW yL_years cL_years 6 [(0, 12, 15, 18), (0, 12, 19, 13)] 5 := ⟨gin 1386 (by decide +kernel) rfl, gin 89 (by decide +kernel) rfl, gin 1385 (by decide +kernel) rfl, by decide +kernel⟩
theorem ll_RL_170 : Cond.methodLink RL 170 yL_years ∈ gw := gin 1384 (by decide +kernel) rfl
theorem lm_X11_image : lkM yX11_image cX11_image 1 none 0 := ⟨gin 1981 (by decide +kernel) rfl, gin 102 (by decide +kernel) rfl, by decide +kernel⟩
theorem lv_m_X11_image : Cond.instanceMethod yX11_image ∈ gw ∧ Cond.selects (yX11_image).cls yX11_image yX11_image ∈ gw := ⟨gin 1979 (by decide +kernel) rfl, gin 1980 (by decide +kernel) rfl⟩
theorem ll_RL_177 : Cond.methodLink RL 177 yX11_image ∈ gw := gin 1978 (by decide +kernel) rfl
theorem lm_X10_image : lkM yX10_image cX10_image 1 none 0 := ⟨gin 889 (by decide +kernel) rfl, gin 90 (by decide +kernel) rfl, by decide +kernel⟩
theorem lv_m_X10_image : Cond.instanceMethod yX10_image ∈ gw ∧ Cond.selects (yX10_image).cls yX10_image yX10_image ∈ gw := ⟨gin 887 (by decide +kernel) rfl, gin 888 (by decide +kernel) rfl⟩
theorem ll_RL_174 : Cond.methodLink RL 174 yX10_image ∈ gw := gin 886 (by decide +kernel) rfl
theorem lm_X11_restore : lkM yX11_restore cX11_restore 1 (some .boolean) 0 := ⟨gin 1985 (by decide +kernel) rfl, gin 102 (by decide +kernel) rfl, by decide +kernel⟩
theorem lv_m_X11_restore : Cond.instanceMethod yX11_restore ∈ gw ∧ Cond.selects (yX11_restore).cls yX11_restore yX11_restore ∈ gw := ⟨gin 1983 (by decide +kernel) rfl, gin 1984 (by decide +kernel) rfl⟩
theorem ll_RL_182 : Cond.methodLink RL 182 yX11_restore ∈ gw := gin 1982 (by decide +kernel) rfl
theorem lm_X10_restore : lkM yX10_restore cX10_restore 1 (some .boolean) 0 := ⟨gin 898 (by decide +kernel) rfl, gin 90 (by decide +kernel) rfl, by decide +kernel⟩
theorem lv_m_X10_restore : Cond.instanceMethod yX10_restore ∈ gw ∧ Cond.selects (yX10_restore).cls yX10_restore yX10_restore ∈ gw := ⟨gin 896 (by decide +kernel) rfl, gin 897 (by decide +kernel) rfl⟩
theorem ll_RL_178 : Cond.methodLink RL 178 yX10_restore ∈ gw := gin 895 (by decide +kernel) rfl
def l_law (L : Nat) (xs : Nat → Int32) (x m o : Nat) (i : Int32) (M : Mem) : Option ((Int32 × Mem) ⊕ (Int32 × Mem)) :=
  if ((Int32.ofNat L) - (6 : Int32)) < i then (some (.inr ((1 : Int32), M))) else (gdi i L (jn1 (fun M1 => nm (i + (6 : Int32)) (fun y2 => some (.inl (y2, M1)))) (fun J1559 => if ((xs i.toNatClampNeg) &&& (31 : Int32)).toInt < 0 ∨ 28 < ((xs i.toNatClampNeg) &&& (31 : Int32)).toInt then (J1559 M) else if ((xs i.toNatClampNeg) &&& (31 : Int32)) = (0 : Int32) then (gdi (i + (1 : Int32)) L (gdi (i + (2 : Int32)) L (gdi (i + (3 : Int32)) L (gdi (i + (4 : Int32)) L (gdi (i + (5 : Int32)) L (bd (f_X10_feed x (xs (i + (1 : Int32)).toNatClampNeg) (xs (i + (2 : Int32)).toNatClampNeg) (xs (i + (3 : Int32)).toNatClampNeg) (xs (i + (4 : Int32)).toNatClampNeg) (xs (i + (5 : Int32)).toNatClampNeg) M) (fun u3 M4 => gdi (i + (1 : Int32)) L (gdi (i + (2 : Int32)) L (gdi (i + (3 : Int32)) L (gdi (i + (4 : Int32)) L (gdi (i + (5 : Int32)) L (bd (f_X11_feed m (xs (i + (1 : Int32)).toNatClampNeg) (xs (i + (2 : Int32)).toNatClampNeg) (xs (i + (3 : Int32)).toNatClampNeg) (xs (i + (4 : Int32)).toNatClampNeg) (xs (i + (5 : Int32)).toNatClampNeg) M4) (fun u5 M6 => if u3 = u5 then (J1559 M6) else (some (.inr ((0 : Int32), M6)))))))))))))))) else if ((xs i.toNatClampNeg) &&& (31 : Int32)) = (1 : Int32) then (gdi (i + (1 : Int32)) L (bd (f_L_line x (xs (i + (1 : Int32)).toNatClampNeg) o M) (fun u7 M8 => gdi (i + (1 : Int32)) L (bd (f_X11_line m (xs (i + (1 : Int32)).toNatClampNeg) M8) (fun u9 M10 => bd (f_X11_thrown m M10) (fun u11 M12 => if u11 = u7 then (jn0 (fun _ => J1559 M12) (fun J298 => if u7 = 0 then (if (lg_cmp (M12.2.1 o 0) u9.toInt64) = 0 then (J298 ()) else (some (.inr ((0 : Int32), M12)))) else (J298 ()))) else (some (.inr ((0 : Int32), M12))))))))) else if ((xs i.toNatClampNeg) &&& (31 : Int32)) = (2 : Int32) then (bd (f_X10_fault x M) (fun u13 M14 => bd (f_X11_fault m M14) (fun u15 M16 => if u13 = u15 then (J1559 M16) else (some (.inr ((0 : Int32), M16)))))) else if ((xs i.toNatClampNeg) &&& (31 : Int32)) = (3 : Int32) then (gdi (i + (1 : Int32)) L (bd (f_L_count x (xs (i + (1 : Int32)).toNatClampNeg) o M) (fun u17 M18 => gdi (i + (1 : Int32)) L (bd (f_X11_count m (xs (i + (1 : Int32)).toNatClampNeg) M18) (fun u19 M20 => bd (f_X11_thrown m M20) (fun u21 M22 => if u21 = u17 then (jn0 (fun _ => J1559 M22) (fun J367 => if u17 = 0 then (if (lg_cmp (M22.2.1 o 0) u19.toInt64) = 0 then (J367 ()) else (some (.inr ((0 : Int32), M22)))) else (J367 ()))) else (some (.inr ((0 : Int32), M22))))))))) else if ((xs i.toNatClampNeg) &&& (31 : Int32)) = (4 : Int32) then (gdi (i + (1 : Int32)) L (bd (f_L_set x (xs (i + (1 : Int32)).toNatClampNeg) o M) (fun u23 M24 => gdi (i + (1 : Int32)) L (bd (f_X11_set m (xs (i + (1 : Int32)).toNatClampNeg) M24) (fun u25 M26 => bd (f_X11_thrown m M26) (fun u27 M28 => if u27 = u23 then (jn0 (fun _ => J1559 M28) (fun J423 => if u23 = 0 then (if (lg_cmp (M28.2.1 o 0) u25.toInt64) = 0 then (J423 ()) else (some (.inr ((0 : Int32), M28)))) else (J423 ()))) else (some (.inr ((0 : Int32), M28))))))))) else if ((xs i.toNatClampNeg) &&& (31 : Int32)) = (5 : Int32) then (gdi (i + (1 : Int32)) L (gdi (i + (2 : Int32)) L (bd (f_L_flying x (xs (i + (1 : Int32)).toNatClampNeg) (xs (i + (2 : Int32)).toNatClampNeg) o M) (fun u29 M30 => gdi (i + (1 : Int32)) L (gdi (i + (2 : Int32)) L (bd (f_X11_flying m (xs (i + (1 : Int32)).toNatClampNeg) (xs (i + (2 : Int32)).toNatClampNeg) M30) (fun u31 M32 => bd (f_X11_thrown m M32) (fun u33 M34 => if u33 = u29 then (jn0 (fun _ => J1559 M34) (fun J491 => if u29 = 0 then (if (lg_cmp (M34.2.1 o 0) u31.toInt64) = 0 then (J491 ()) else (some (.inr ((0 : Int32), M34)))) else (J491 ()))) else (some (.inr ((0 : Int32), M34))))))))))) else if ((xs i.toNatClampNeg) &&& (31 : Int32)) = (6 : Int32) then (gdi (i + (1 : Int32)) L (bd (f_L_slot x (xs (i + (1 : Int32)).toNatClampNeg) o M) (fun u35 M36 => gdi (i + (1 : Int32)) L (bd (f_X11_slot m (xs (i + (1 : Int32)).toNatClampNeg) M36) (fun u37 M38 => bd (f_X11_thrown m M38) (fun u39 M40 => if u39 = u35 then (jn0 (fun _ => J1559 M40) (fun J547 => if u35 = 0 then (if (lg_cmp (M40.2.1 o 0) u37.toInt64) = 0 then (J547 ()) else (some (.inr ((0 : Int32), M40)))) else (J547 ()))) else (some (.inr ((0 : Int32), M40))))))))) else if ((xs i.toNatClampNeg) &&& (31 : Int32)) = (7 : Int32) then (gdi (i + (1 : Int32)) L (gdi (i + (2 : Int32)) L (bd (f_L_played x (xs (i + (1 : Int32)).toNatClampNeg) (xs (i + (2 : Int32)).toNatClampNeg) o M) (fun u41 M42 => gdi (i + (1 : Int32)) L (gdi (i + (2 : Int32)) L (bd (f_X11_played m (xs (i + (1 : Int32)).toNatClampNeg) (xs (i + (2 : Int32)).toNatClampNeg) M42) (fun u43 M44 => bd (f_X11_thrown m M44) (fun u45 M46 => if u45 = u41 then (jn0 (fun _ => J1559 M46) (fun J615 => if u41 = 0 then (if (lg_cmp (M46.2.1 o 0) u43.toInt64) = 0 then (J615 ()) else (some (.inr ((0 : Int32), M46)))) else (J615 ()))) else (some (.inr ((0 : Int32), M46))))))))))) else if ((xs i.toNatClampNeg) &&& (31 : Int32)) = (8 : Int32) then (gdi (i + (1 : Int32)) L (gdi (i + (2 : Int32)) L (bd (f_L_spans x (xs (i + (1 : Int32)).toNatClampNeg) (xs (i + (2 : Int32)).toNatClampNeg) o M) (fun u47 M48 => gdi (i + (1 : Int32)) L (gdi (i + (2 : Int32)) L (bd (f_X11_spans m (xs (i + (1 : Int32)).toNatClampNeg) (xs (i + (2 : Int32)).toNatClampNeg) M48) (fun u49 M50 => bd (f_X11_thrown m M50) (fun u51 M52 => if u51 = u47 then (jn0 (fun _ => J1559 M52) (fun J683 => if u47 = 0 then (if (lg_cmp (M52.2.1 o 0) u49.toInt64) = 0 then (J683 ()) else (some (.inr ((0 : Int32), M52)))) else (J683 ()))) else (some (.inr ((0 : Int32), M52))))))))))) else if ((xs i.toNatClampNeg) &&& (31 : Int32)) = (9 : Int32) then (gdi (i + (1 : Int32)) L (bd (f_L_sample x (xs (i + (1 : Int32)).toNatClampNeg) o M) (fun u53 M54 => gdi (i + (1 : Int32)) L (bd (f_X11_sample m (xs (i + (1 : Int32)).toNatClampNeg) M54) (fun u55 M56 => bd (f_X11_thrown m M56) (fun u57 M58 => if u57 = u53 then (jn0 (fun _ => J1559 M58) (fun J739 => if u53 = 0 then (if (lg_cmp (M58.2.1 o 0) u55.toInt64) = 0 then (J739 ()) else (some (.inr ((0 : Int32), M58)))) else (J739 ()))) else (some (.inr ((0 : Int32), M58))))))))) else if ((xs i.toNatClampNeg) &&& (31 : Int32)) = (10 : Int32) then (gdi (i + (1 : Int32)) L (bd (f_L_wander x (xs (i + (1 : Int32)).toNatClampNeg) o M) (fun u59 M60 => gdi (i + (1 : Int32)) L (bd (f_X11_wander m (xs (i + (1 : Int32)).toNatClampNeg) M60) (fun u61 M62 => bd (f_X11_thrown m M62) (fun u63 M64 => if u63 = u59 then (jn0 (fun _ => J1559 M64) (fun J795 => if u59 = 0 then (if (lg_cmp (M64.2.1 o 0) u61.toInt64) = 0 then (J795 ()) else (some (.inr ((0 : Int32), M64)))) else (J795 ()))) else (some (.inr ((0 : Int32), M64))))))))) else if ((xs i.toNatClampNeg) &&& (31 : Int32)) = (11 : Int32) then (gdi (i + (1 : Int32)) L (bd (f_X10_steps x (xs (i + (1 : Int32)).toNatClampNeg) M) (fun u65 M66 => gdi (i + (1 : Int32)) L (bd (f_X11_steps m (xs (i + (1 : Int32)).toNatClampNeg) M66) (fun u67 M68 => if u65 = u67 then (J1559 M68) else (some (.inr ((0 : Int32), M68)))))))) else if ((xs i.toNatClampNeg) &&& (31 : Int32)) = (12 : Int32) then (gdi (i + (1 : Int32)) L (bd (f_X10_lose x (xs (i + (1 : Int32)).toNatClampNeg) M) (fun u69 M70 => gdi (i + (1 : Int32)) L (bd (f_X11_lose m (xs (i + (1 : Int32)).toNatClampNeg) M70) (fun u71 M72 => if u69 = u71 then (J1559 M72) else (some (.inr ((0 : Int32), M72)))))))) else if ((xs i.toNatClampNeg) &&& (31 : Int32)) = (13 : Int32) then (gdi (i + (1 : Int32)) L (bd (f_X10_stall x (xs (i + (1 : Int32)).toNatClampNeg) M) (fun u73 M74 => gdi (i + (1 : Int32)) L (bd (f_X11_stall m (xs (i + (1 : Int32)).toNatClampNeg) M74) (fun u75 M76 => if u73 = u75 then (J1559 M76) else (some (.inr ((0 : Int32), M76)))))))) else if ((xs i.toNatClampNeg) &&& (31 : Int32)) = (14 : Int32) then (gdi (i + (1 : Int32)) L (gdi (i + (2 : Int32)) L (bd (f_L_turn x (xs (i + (1 : Int32)).toNatClampNeg) (xs (i + (2 : Int32)).toNatClampNeg) o M) (fun u77 M78 => gdi (i + (1 : Int32)) L (gdi (i + (2 : Int32)) L (bd (f_X11_turn m (xs (i + (1 : Int32)).toNatClampNeg) (xs (i + (2 : Int32)).toNatClampNeg) M78) (fun u79 M80 => bd (f_X11_thrown m M80) (fun u81 M82 => if u81 = u77 then (jn0 (fun _ => J1559 M82) (fun J938 => if u77 = 0 then (if (lg_cmp (M82.2.1 o 0) u79.toInt64) = 0 then (J938 ()) else (some (.inr ((0 : Int32), M82)))) else (J938 ()))) else (some (.inr ((0 : Int32), M82))))))))))) else if ((xs i.toNatClampNeg) &&& (31 : Int32)) = (15 : Int32) then (bd (f_X10_undo x M) (fun u83 M84 => bd (f_X11_undo m M84) (fun u85 M86 => if u83 = u85 then (J1559 M86) else (some (.inr ((0 : Int32), M86)))))) else if ((xs i.toNatClampNeg) &&& (31 : Int32)) = (16 : Int32) then (gdi (i + (1 : Int32)) L (gdi (i + (2 : Int32)) L (bd (f_L_then x (xs (i + (1 : Int32)).toNatClampNeg) (xs (i + (2 : Int32)).toNatClampNeg) o M) (fun u87 M88 => gdi (i + (1 : Int32)) L (gdi (i + (2 : Int32)) L (bd (f_X11_then m (xs (i + (1 : Int32)).toNatClampNeg) (xs (i + (2 : Int32)).toNatClampNeg) M88) (fun u89 M90 => bd (f_X11_thrown m M90) (fun u91 M92 => if u91 = u87 then (jn0 (fun _ => J1559 M92) (fun J1019 => if u87 = 0 then (if (lg_cmp (M92.2.1 o 0) u89.toInt64) = 0 then (J1019 ()) else (some (.inr ((0 : Int32), M92)))) else (J1019 ()))) else (some (.inr ((0 : Int32), M92))))))))))) else if ((xs i.toNatClampNeg) &&& (31 : Int32)) = (17 : Int32) then (gdi (i + (1 : Int32)) L (bd (f_L_when x (xs (i + (1 : Int32)).toNatClampNeg) o M) (fun u93 M94 => gdi (i + (1 : Int32)) L (bd (f_X11_when m (xs (i + (1 : Int32)).toNatClampNeg) M94) (fun u95 M96 => bd (f_X11_thrown m M96) (fun u97 M98 => if u97 = u93 then (jn0 (fun _ => J1559 M98) (fun J1075 => if u93 = 0 then (if (lg_cmp (M98.2.1 o 0) u95.toInt64) = 0 then (J1075 ()) else (some (.inr ((0 : Int32), M98)))) else (J1075 ()))) else (some (.inr ((0 : Int32), M98))))))))) else if ((xs i.toNatClampNeg) &&& (31 : Int32)) = (18 : Int32) then (bd (f_X10_settles x M) (fun u99 M100 => bd (f_X11_settles m M100) (fun u101 M102 => if u99 = u101 then (J1559 M102) else (some (.inr ((0 : Int32), M102)))))) else if ((xs i.toNatClampNeg) &&& (31 : Int32)) = (19 : Int32) then (gdi (i + (1 : Int32)) L (gdi (i + (2 : Int32)) L (bd (f_L_toAim x (xs (i + (1 : Int32)).toNatClampNeg) (xs (i + (2 : Int32)).toNatClampNeg) o M) (fun u103 M104 => gdi (i + (1 : Int32)) L (gdi (i + (2 : Int32)) L (bd (f_X11_toAim m (xs (i + (1 : Int32)).toNatClampNeg) (xs (i + (2 : Int32)).toNatClampNeg) M104) (fun u105 M106 => bd (f_X11_thrown m M106) (fun u107 M108 => if u107 = u103 then (jn0 (fun _ => J1559 M108) (fun J1156 => if u103 = 0 then (if (lg_cmp (M108.2.1 o 0) u105.toInt64) = 0 then (J1156 ()) else (some (.inr ((0 : Int32), M108)))) else (J1156 ()))) else (some (.inr ((0 : Int32), M108))))))))))) else if ((xs i.toNatClampNeg) &&& (31 : Int32)) = (20 : Int32) then (gdi (i + (1 : Int32)) L (gdi (i + (2 : Int32)) L (bd (f_L_toGain x (xs (i + (1 : Int32)).toNatClampNeg) (xs (i + (2 : Int32)).toNatClampNeg) o M) (fun u109 M110 => gdi (i + (1 : Int32)) L (gdi (i + (2 : Int32)) L (bd (f_X11_toGain m (xs (i + (1 : Int32)).toNatClampNeg) (xs (i + (2 : Int32)).toNatClampNeg) M110) (fun u111 M112 => bd (f_X11_thrown m M112) (fun u113 M114 => if u113 = u109 then (jn0 (fun _ => J1559 M114) (fun J1224 => if u109 = 0 then (if (lg_cmp (M114.2.1 o 0) u111.toInt64) = 0 then (J1224 ()) else (some (.inr ((0 : Int32), M114)))) else (J1224 ()))) else (some (.inr ((0 : Int32), M114))))))))))) else if ((xs i.toNatClampNeg) &&& (31 : Int32)) = (21 : Int32) then (gdi (i + (1 : Int32)) L (gdi (i + (2 : Int32)) L (bd (f_X10_note x (xs (i + (1 : Int32)).toNatClampNeg) (xs (i + (2 : Int32)).toNatClampNeg) M) (fun u115 M116 => gdi (i + (1 : Int32)) L (gdi (i + (2 : Int32)) L (bd (f_X11_note m (xs (i + (1 : Int32)).toNatClampNeg) (xs (i + (2 : Int32)).toNatClampNeg) M116) (fun u117 M118 => if u115 = u117 then (J1559 M118) else (some (.inr ((0 : Int32), M118)))))))))) else if ((xs i.toNatClampNeg) &&& (31 : Int32)) = (22 : Int32) then (gdi (i + (1 : Int32)) L (bd (f_L_other x (xs (i + (1 : Int32)).toNatClampNeg) o M) (fun u119 M120 => gdi (i + (1 : Int32)) L (bd (f_X11_other m (xs (i + (1 : Int32)).toNatClampNeg) M120) (fun u121 M122 => bd (f_X11_thrown m M122) (fun u123 M124 => if u123 = u119 then (jn0 (fun _ => J1559 M124) (fun J1317 => if u119 = 0 then (if (lg_cmp (M124.2.1 o 0) u121.toInt64) = 0 then (J1317 ()) else (some (.inr ((0 : Int32), M124)))) else (J1317 ()))) else (some (.inr ((0 : Int32), M124))))))))) else if ((xs i.toNatClampNeg) &&& (31 : Int32)) = (23 : Int32) then (gdi (i + (1 : Int32)) L (bd (f_L_look x (xs (i + (1 : Int32)).toNatClampNeg) o M) (fun u125 M126 => gdi (i + (1 : Int32)) L (bd (f_X11_look m (xs (i + (1 : Int32)).toNatClampNeg) M126) (fun u127 M128 => bd (f_X11_thrown m M128) (fun u129 M130 => if u129 = u125 then (jn0 (fun _ => J1559 M130) (fun J1373 => if u125 = 0 then (if (lg_cmp (M130.2.1 o 0) u127.toInt64) = 0 then (J1373 ()) else (some (.inr ((0 : Int32), M130)))) else (J1373 ()))) else (some (.inr ((0 : Int32), M130))))))))) else if ((xs i.toNatClampNeg) &&& (31 : Int32)) = (24 : Int32) then (bd (f_X10_forget x M) (fun _ M132 => bd (f_X11_forget m M132) (fun _ M134 => J1559 M134))) else if ((xs i.toNatClampNeg) &&& (31 : Int32)) = (25 : Int32) then (gdi (i + (1 : Int32)) L (gdi (i + (2 : Int32)) L (bd (f_L_storms x (xs (i + (1 : Int32)).toNatClampNeg) (xs (i + (2 : Int32)).toNatClampNeg) o M) (fun u135 M136 => gdi (i + (1 : Int32)) L (gdi (i + (2 : Int32)) L (bd (f_X11_storms m (xs (i + (1 : Int32)).toNatClampNeg) (xs (i + (2 : Int32)).toNatClampNeg) M136) (fun u137 M138 => bd (f_X11_thrown m M138) (fun u139 M140 => if u139 = u135 then (jn0 (fun _ => J1559 M140) (fun J1452 => if u135 = 0 then (if (lg_cmp (M140.2.1 o 0) u137.toInt64) = 0 then (J1452 ()) else (some (.inr ((0 : Int32), M140)))) else (J1452 ()))) else (some (.inr ((0 : Int32), M140))))))))))) else if ((xs i.toNatClampNeg) &&& (31 : Int32)) = (26 : Int32) then (gdi (i + (1 : Int32)) L (gdi (i + (2 : Int32)) L (gdi (i + (3 : Int32)) L (bd (f_L_years x (xs (i + (1 : Int32)).toNatClampNeg) (xs (i + (2 : Int32)).toNatClampNeg) (xs (i + (3 : Int32)).toNatClampNeg) o M) (fun u141 M142 => gdi (i + (1 : Int32)) L (gdi (i + (2 : Int32)) L (gdi (i + (3 : Int32)) L (bd (f_X11_years m (xs (i + (1 : Int32)).toNatClampNeg) (xs (i + (2 : Int32)).toNatClampNeg) (xs (i + (3 : Int32)).toNatClampNeg) M142) (fun u143 M144 => bd (f_X11_thrown m M144) (fun u145 M146 => if u145 = u141 then (jn0 (fun _ => J1559 M146) (fun J1532 => if u141 = 0 then (if (lg_cmp (M146.2.1 o 0) u143.toInt64) = 0 then (J1532 ()) else (some (.inr ((0 : Int32), M146)))) else (J1532 ()))) else (some (.inr ((0 : Int32), M146))))))))))))) else if ((xs i.toNatClampNeg) &&& (31 : Int32)) = (27 : Int32) then (bd (f_X10_image x M) (fun _ M148 => bd (f_X11_image m M148) (fun _ M150 => J1559 M150))) else if ((xs i.toNatClampNeg) &&& (31 : Int32)) = (28 : Int32) then (bd (f_X10_restore x M) (fun u151 M152 => bd (f_X11_restore m M152) (fun u153 M154 => if u151 = u153 then (J1559 M154) else (some (.inr ((0 : Int32), M154)))))) else none)))
set_option maxRecDepth 20000 in
theorem law_body {G : Ctx} (hfl : (gl G).stackTraces = false) (hW : WFG G) {L b x m o : Nat} {xs : Nat → Int32} {i : Int32} {M : Mem} (h0 : hs G x (0, 10)) (h1 : hs G m (0, 11)) (ho : hs G o (3, 1)) {F Lo : Nat} (hFF : 200 ≤ F ∧ 20000 ≤ Lo) {w w1 : Mem → Nat → List (Nat × Value) → List Value → Prop} (h3 : RbW G code RL 7 200 20000 b L xs w w1) :
    E (fun r : (Int32 × Mem) ⊕ (Int32 × Mem) => match r with
      | .inl (i, M) => w1 M 23 [(0, .ref b), (1, .ref x), (2, .ref m), (3, .ref o), (4, .int i)] []
      | .inr (v, M) => ∀ (pc : Nat) (ls : List (Nat × Value)), decode code pc = .ok (.ireturn, 1) → w1 M pc ls [.int v]) (l_law L xs x m o i M) (w M 23 [(0, .ref b), (1, .ref x), (2, .ref m), (3, .ref o), (4, .int i)] []) := by
  have h := h3.l
  have h2 := h3.r
  have HS := h3.sl
  have HS2 := h3.sr
  unfold l_law
  refine E.m (h.iload 4 dL_law_23 rfl) ?_
  refine E.m (h.aload_n 0 dL_law_25 rfl) ?_
  refine E.m (HS.slen dL_law_26) ?_
  refine E.m (h.bipush (v := (6 : Int32)) dL_law_27 (by decide)) ?_
  refine E.m (h.isub dL_law_29) ?_
  refine E.br (fun k1 k2 => h.icmp_gt (tgt := 1565) dL_law_30 (by decide) k1 k2) ?_ ?_
  · refine E.m (h.iconst (v := (1 : Int32)) dL_law_1565 (by decide)) ?_
    exact E.some (fun q => h3.wid (q _ _ dL_law_1566))
  · refine E.m (h.aload_n 0 dL_law_33 rfl) ?_
    refine E.m (h.iload 4 dL_law_34 rfl) ?_
    refine E.gi (fun hi k => HS.sld hi dL_law_36 k) ?_
    refine E.m (h.bipush (v := (31 : Int32)) dL_law_37 (by decide)) ?_
    refine E.m (h.iand dL_law_39) ?_
    refine E.join1 (fun M1 => w1 M1 1559 [(0, .ref b), (1, .ref x), (2, .ref m), (3, .ref o), (4, .int i)] []) (fun M1 => ?_) (fun J1559 hJ1559 => ?_)
    · refine E.m (h2.iinc (v := (6 : Int32)) 4 dL_law_1559 rfl (by decide) (by decide) rfl) ?_
      refine E.nmL (fun y2 => ?_)
      refine E.m (h2.goto (tgt := 23) dL_law_1562 (by decide)) ?_
      refine E.m (h2.sub [1, 2, 3, 4, 0] rfl) ?_
      exact E.some (fun q => q)
    refine E.sw (fun hc k => h.tabOut (tgt := 1559) dL_law_40 hc (by decide) k) ?_ (fun hn => ?_)
    · exact E.m (fun k => h3.wid k) (hJ1559 _)
    refine E.sw (fun hc k => h.tabIn (tgt := 172) dL_law_40 (by rw [hc]; decide) (by rw [hc]; decide) (by rw [hc]; rfl) (by decide) k) ?_ (fun _ => ?_)
    · refine E.m (h.aload_n 1 dL_law_172 rfl) ?_
      refine E.m (h.aload_n 0 dL_law_173 rfl) ?_
      refine E.m (h.iload 4 dL_law_174 rfl) ?_
      refine E.m (h.iconst (v := (1 : Int32)) dL_law_176 (by decide)) ?_
      refine E.m (h.iadd dL_law_177) ?_
      refine E.gi (fun hi k => HS.sld hi dL_law_178 k) ?_
      refine E.m (h.aload_n 0 dL_law_179 rfl) ?_
      refine E.m (h.iload 4 dL_law_180 rfl) ?_
      refine E.m (h.iconst (v := (2 : Int32)) dL_law_182 (by decide)) ?_
      refine E.m (h.iadd dL_law_183) ?_
      refine E.gi (fun hi k => HS.sld hi dL_law_184 k) ?_
      refine E.m (h.aload_n 0 dL_law_185 rfl) ?_
      refine E.m (h.iload 4 dL_law_186 rfl) ?_
      refine E.m (h.iconst (v := (3 : Int32)) dL_law_188 (by decide)) ?_
      refine E.m (h.iadd dL_law_189) ?_
      refine E.gi (fun hi k => HS.sld hi dL_law_190 k) ?_
      refine E.m (h.aload_n 0 dL_law_191 rfl) ?_
      refine E.m (h.iload 4 dL_law_192 rfl) ?_
      refine E.m (h.iconst (v := (4 : Int32)) dL_law_194 (by decide)) ?_
      refine E.m (h.iadd dL_law_195) ?_
      refine E.gi (fun hi k => HS.sld hi dL_law_196 k) ?_
      refine E.m (h.aload_n 0 dL_law_197 rfl) ?_
      refine E.m (h.iload 4 dL_law_198 rfl) ?_
      refine E.m (h.iconst (v := (5 : Int32)) dL_law_200 (by decide)) ?_
      refine E.m (h.iadd dL_law_201) ?_
      refine E.gi (fun hi k => HS.sld hi dL_law_202 k) ?_
      refine E.bnd (fun u3 M4 => w M4 206 [(0, .ref b), (1, .ref x), (2, .ref m), (3, .ref o), (4, .int i)] [.int u3]) (fun u3 M4 hf k => h.callV (As := [.int (xs (i + (1 : Int32)).toNatClampNeg), .int (xs (i + (2 : Int32)).toNatClampNeg), .int (xs (i + (3 : Int32)).toNatClampNeg), .int (xs (i + (4 : Int32)).toNatClampNeg), .int (xs (i + (5 : Int32)).toNatClampNeg)]) (rest := []) (c_X10_feed hW h0 hf) lm_X10_feed lv_m_X10_feed ll_RL_74 h0 lc_10 rfl rfl (Nat.le_of_ble_eq_true rfl) (by decide) dL_law_203 rfl k) (fun u3 M4 => ?_)
      refine E.m (h.aload_n 2 dL_law_206 rfl) ?_
      refine E.m (h.aload_n 0 dL_law_207 rfl) ?_
      refine E.m (h.iload 4 dL_law_208 rfl) ?_
      refine E.m (h.iconst (v := (1 : Int32)) dL_law_210 (by decide)) ?_
      refine E.m (h.iadd dL_law_211) ?_
      refine E.gi (fun hi k => HS.sld hi dL_law_212 k) ?_
      refine E.m (h.aload_n 0 dL_law_213 rfl) ?_
      refine E.m (h.iload 4 dL_law_214 rfl) ?_
      refine E.m (h.iconst (v := (2 : Int32)) dL_law_216 (by decide)) ?_
      refine E.m (h.iadd dL_law_217) ?_
      refine E.gi (fun hi k => HS.sld hi dL_law_218 k) ?_
      refine E.m (h.aload_n 0 dL_law_219 rfl) ?_
      refine E.m (h.iload 4 dL_law_220 rfl) ?_
      refine E.m (h.iconst (v := (3 : Int32)) dL_law_222 (by decide)) ?_
      refine E.m (h.iadd dL_law_223) ?_
      refine E.gi (fun hi k => HS.sld hi dL_law_224 k) ?_
      refine E.m (h.aload_n 0 dL_law_225 rfl) ?_
      refine E.m (h.iload 4 dL_law_226 rfl) ?_
      refine E.m (h.iconst (v := (4 : Int32)) dL_law_228 (by decide)) ?_
      refine E.m (h.iadd dL_law_229) ?_
      refine E.gi (fun hi k => HS.sld hi dL_law_230 k) ?_
      refine E.m (h.aload_n 0 dL_law_231 rfl) ?_
      refine E.m (h.iload 4 dL_law_232 rfl) ?_
      refine E.m (h.iconst (v := (5 : Int32)) dL_law_234 (by decide)) ?_
      refine E.m (h.iadd dL_law_235) ?_
      refine E.gi (fun hi k => HS.sld hi dL_law_236 k) ?_
      refine E.bnd (fun u5 M6 => w M6 240 [(0, .ref b), (1, .ref x), (2, .ref m), (3, .ref o), (4, .int i)] [.int u5, .int u3]) (fun u5 M6 hf k => h.callV (As := [.int (xs (i + (1 : Int32)).toNatClampNeg), .int (xs (i + (2 : Int32)).toNatClampNeg), .int (xs (i + (3 : Int32)).toNatClampNeg), .int (xs (i + (4 : Int32)).toNatClampNeg), .int (xs (i + (5 : Int32)).toNatClampNeg)]) (rest := [.int u3]) (c_X11_feed hW h1 hf) lm_X11_feed lv_m_X11_feed ll_RL_78 h1 lc_11 rfl rfl (Nat.le_of_ble_eq_true rfl) (by decide) dL_law_237 rfl k) (fun u5 M6 => ?_)
      refine E.br (fun k1 k2 => h.icmp_eq (tgt := 1559) dL_law_240 (by decide) k1 k2) ?_ ?_
      · exact E.m (fun k => h3.wid k) (hJ1559 _)
      · refine E.m (h.iconst (v := (0 : Int32)) dL_law_243 (by decide)) ?_
        exact E.some (fun q => h3.wid (q _ _ dL_law_244))
    refine E.sw (fun hc k => h.tabIn (tgt := 245) dL_law_40 (by rw [hc]; decide) (by rw [hc]; decide) (by rw [hc]; rfl) (by decide) k) ?_ (fun _ => ?_)
    · refine E.m (h.aload_n 1 dL_law_245 rfl) ?_
      refine E.m (h.aload_n 0 dL_law_246 rfl) ?_
      refine E.m (h.iload 4 dL_law_247 rfl) ?_
      refine E.m (h.iconst (v := (1 : Int32)) dL_law_249 (by decide)) ?_
      refine E.m (h.iadd dL_law_250) ?_
      refine E.gi (fun hi k => HS.sld hi dL_law_251 k) ?_
      refine E.m (h.aload_n 3 dL_law_252 rfl) ?_
      refine E.bnd (fun u7 M8 => w1 M8 256 [(0, .ref b), (1, .ref x), (2, .ref m), (3, .ref o), (4, .int i)] [.int u7]) (fun u7 M8 hf k => h3.callW (As := [.ref x, .int (xs (i + (1 : Int32)).toNatClampNeg), .ref o]) (rest := []) (c_L_line hfl hW h0 ho hf) lw_L_line ll_RL_79 rfl rfl (Nat.le_of_ble_eq_true rfl) (by decide) dL_law_253 k) (fun u7 M8 => ?_)
      refine E.m (h2.istore dL_law_256 (by decide) rfl) ?_
      refine E.m (h2.aload_n 3 dL_law_258 rfl) ?_
      refine E.m (h2.aload_n 1 dL_law_259 rfl) ?_
      refine E.m (h2.iload 5 dL_law_260 rfl) ?_
      refine E.m (h2.iconst (v := (1 : Int32)) dL_law_262 (by decide)) ?_
      refine E.m (h2.iadd dL_law_263) ?_
      refine E.gi (fun hi k => HS2.sld hi dL_law_264 k) ?_
      refine E.bnd (fun u9 M10 => w1 M10 268 [(5, .int u7), (0, .ref b), (1, .ref x), (2, .ref m), (3, .ref o), (4, .int i)] [.int u9]) (fun u9 M10 hf k => h2.callV (As := [.int (xs (i + (1 : Int32)).toNatClampNeg)]) (rest := []) (c_X11_line hW h1 hf) lm_X11_line lv_m_X11_line ll_RL_84 h1 lc_11 rfl rfl (Nat.le_of_ble_eq_true rfl) (by decide) dL_law_265 rfl k) (fun u9 M10 => ?_)
      refine E.m (h2.istore dL_law_268 (by decide) rfl) ?_
      refine E.m (h2.aload_n 4 dL_law_270 rfl) ?_
      refine E.bnd (fun u11 M12 => w1 M12 274 [(6, .int u9), (5, .int u7), (0, .ref b), (1, .ref x), (2, .ref m), (3, .ref o), (4, .int i)] [.int u11]) (fun u11 M12 hf k => h2.callV (As := []) (rest := []) (c_X11_thrown hW h1 hf) lm_X11_thrown lv_m_X11_thrown ll_RL_85 h1 lc_11 rfl rfl (Nat.le_of_ble_eq_true rfl) (by decide) dL_law_271 rfl k) (fun u11 M12 => ?_)
      refine E.m (h2.iload 1 dL_law_274 rfl) ?_
      refine E.br (fun k1 k2 => h2.icmp_eq (tgt := 281) dL_law_276 (by decide) k1 k2) ?_ ?_
      · refine E.m (h2.iload 1 dL_law_281 rfl) ?_
        refine E.join0 (fun _ => w1 M12 298 [(0, .ref b), (1, .ref x), (2, .ref m), (3, .ref o), (4, .int i), (5, .int u7), (6, .int u9)] []) (fun _ => ?_) (fun J298 hJ298 => ?_)
        · refine E.m (h2.goto (tgt := 1559) dL_law_298 (by decide)) ?_
          refine E.m (h2.sub [0, 1, 2, 3, 4] rfl) ?_
          exact (hJ1559 _)
        refine E.br (fun k1 k2 => h2.if_ne (tgt := 298) dL_law_283 (by decide) k2 k1) ?_ ?_
        · refine E.m (h2.aload_n 5 dL_law_286 rfl) ?_
          refine E.m (h2.iconst (v := (0 : Int32)) dL_law_287 (by decide)) ?_
          refine E.m (h2.lald ho (by decide) dL_law_288) ?_
          refine E.m (h2.iload 0 dL_law_289 rfl) ?_
          refine E.m (h2.i2l dL_law_291) ?_
          refine E.m (h2.lcmp dL_law_292) ?_
          refine E.br (fun k1 k2 => h2.if_eq (tgt := 298) dL_law_293 (by decide) k1 k2) ?_ ?_
          · refine E.m (h2.sub [2, 3, 4, 5, 6, 1, 0] rfl) ?_
            exact (hJ298 ())
          · refine E.m (h2.iconst (v := (0 : Int32)) dL_law_296 (by decide)) ?_
            exact E.some (fun q => q _ _ dL_law_297)
        · refine E.m (h2.sub [2, 3, 4, 5, 6, 1, 0] rfl) ?_
          exact (hJ298 ())
      · refine E.m (h2.iconst (v := (0 : Int32)) dL_law_279 (by decide)) ?_
        exact E.some (fun q => q _ _ dL_law_280)
    refine E.sw (fun hc k => h.tabIn (tgt := 301) dL_law_40 (by rw [hc]; decide) (by rw [hc]; decide) (by rw [hc]; rfl) (by decide) k) ?_ (fun _ => ?_)
    · refine E.m (h.aload_n 1 dL_law_301 rfl) ?_
      refine E.bnd (fun u13 M14 => w M14 305 [(0, .ref b), (1, .ref x), (2, .ref m), (3, .ref o), (4, .int i)] [.int u13]) (fun u13 M14 hf k => h.callV (As := []) (rest := []) (c_X10_fault hW h0 hf) lm_X10_fault lv_m_X10_fault ll_RL_89 h0 lc_10 rfl rfl (Nat.le_of_ble_eq_true rfl) (by decide) dL_law_302 rfl k) (fun u13 M14 => ?_)
      refine E.m (h.aload_n 2 dL_law_305 rfl) ?_
      refine E.bnd (fun u15 M16 => w M16 309 [(0, .ref b), (1, .ref x), (2, .ref m), (3, .ref o), (4, .int i)] [.int u15, .int u13]) (fun u15 M16 hf k => h.callV (As := []) (rest := [.int u13]) (c_X11_fault hW h1 hf) lm_X11_fault lv_m_X11_fault ll_RL_92 h1 lc_11 rfl rfl (Nat.le_of_ble_eq_true rfl) (by decide) dL_law_306 rfl k) (fun u15 M16 => ?_)
      refine E.br (fun k1 k2 => h.icmp_eq (tgt := 1559) dL_law_309 (by decide) k1 k2) ?_ ?_
      · exact E.m (fun k => h3.wid k) (hJ1559 _)
      · refine E.m (h.iconst (v := (0 : Int32)) dL_law_312 (by decide)) ?_
        exact E.some (fun q => h3.wid (q _ _ dL_law_313))
    refine E.sw (fun hc k => h.tabIn (tgt := 314) dL_law_40 (by rw [hc]; decide) (by rw [hc]; decide) (by rw [hc]; rfl) (by decide) k) ?_ (fun _ => ?_)
    · refine E.m (h.aload_n 1 dL_law_314 rfl) ?_
      refine E.m (h.aload_n 0 dL_law_315 rfl) ?_
      refine E.m (h.iload 4 dL_law_316 rfl) ?_
      refine E.m (h.iconst (v := (1 : Int32)) dL_law_318 (by decide)) ?_
      refine E.m (h.iadd dL_law_319) ?_
      refine E.gi (fun hi k => HS.sld hi dL_law_320 k) ?_
      refine E.m (h.aload_n 3 dL_law_321 rfl) ?_
      refine E.bnd (fun u17 M18 => w1 M18 325 [(0, .ref b), (1, .ref x), (2, .ref m), (3, .ref o), (4, .int i)] [.int u17]) (fun u17 M18 hf k => h3.callW (As := [.ref x, .int (xs (i + (1 : Int32)).toNatClampNeg), .ref o]) (rest := []) (c_L_count hfl hW h0 ho hf) lw_L_count ll_RL_93 rfl rfl (Nat.le_of_ble_eq_true rfl) (by decide) dL_law_322 k) (fun u17 M18 => ?_)
      refine E.m (h2.istore dL_law_325 (by decide) rfl) ?_
      refine E.m (h2.aload_n 3 dL_law_327 rfl) ?_
      refine E.m (h2.aload_n 1 dL_law_328 rfl) ?_
      refine E.m (h2.iload 5 dL_law_329 rfl) ?_
      refine E.m (h2.iconst (v := (1 : Int32)) dL_law_331 (by decide)) ?_
      refine E.m (h2.iadd dL_law_332) ?_
      refine E.gi (fun hi k => HS2.sld hi dL_law_333 k) ?_
      refine E.bnd (fun u19 M20 => w1 M20 337 [(5, .int u17), (0, .ref b), (1, .ref x), (2, .ref m), (3, .ref o), (4, .int i)] [.int u19]) (fun u19 M20 hf k => h2.callV (As := [.int (xs (i + (1 : Int32)).toNatClampNeg)]) (rest := []) (c_X11_count hW h1 hf) lm_X11_count lv_m_X11_count ll_RL_95 h1 lc_11 rfl rfl (Nat.le_of_ble_eq_true rfl) (by decide) dL_law_334 rfl k) (fun u19 M20 => ?_)
      refine E.m (h2.istore dL_law_337 (by decide) rfl) ?_
      refine E.m (h2.aload_n 4 dL_law_339 rfl) ?_
      refine E.bnd (fun u21 M22 => w1 M22 343 [(6, .int u19), (5, .int u17), (0, .ref b), (1, .ref x), (2, .ref m), (3, .ref o), (4, .int i)] [.int u21]) (fun u21 M22 hf k => h2.callV (As := []) (rest := []) (c_X11_thrown hW h1 hf) lm_X11_thrown lv_m_X11_thrown ll_RL_85 h1 lc_11 rfl rfl (Nat.le_of_ble_eq_true rfl) (by decide) dL_law_340 rfl k) (fun u21 M22 => ?_)
      refine E.m (h2.iload 1 dL_law_343 rfl) ?_
      refine E.br (fun k1 k2 => h2.icmp_eq (tgt := 350) dL_law_345 (by decide) k1 k2) ?_ ?_
      · refine E.m (h2.iload 1 dL_law_350 rfl) ?_
        refine E.join0 (fun _ => w1 M22 367 [(0, .ref b), (1, .ref x), (2, .ref m), (3, .ref o), (4, .int i), (5, .int u17), (6, .int u19)] []) (fun _ => ?_) (fun J367 hJ367 => ?_)
        · refine E.m (h2.goto (tgt := 1559) dL_law_367 (by decide)) ?_
          refine E.m (h2.sub [0, 1, 2, 3, 4] rfl) ?_
          exact (hJ1559 _)
        refine E.br (fun k1 k2 => h2.if_ne (tgt := 367) dL_law_352 (by decide) k2 k1) ?_ ?_
        · refine E.m (h2.aload_n 5 dL_law_355 rfl) ?_
          refine E.m (h2.iconst (v := (0 : Int32)) dL_law_356 (by decide)) ?_
          refine E.m (h2.lald ho (by decide) dL_law_357) ?_
          refine E.m (h2.iload 0 dL_law_358 rfl) ?_
          refine E.m (h2.i2l dL_law_360) ?_
          refine E.m (h2.lcmp dL_law_361) ?_
          refine E.br (fun k1 k2 => h2.if_eq (tgt := 367) dL_law_362 (by decide) k1 k2) ?_ ?_
          · refine E.m (h2.sub [2, 3, 4, 5, 6, 1, 0] rfl) ?_
            exact (hJ367 ())
          · refine E.m (h2.iconst (v := (0 : Int32)) dL_law_365 (by decide)) ?_
            exact E.some (fun q => q _ _ dL_law_366)
        · refine E.m (h2.sub [2, 3, 4, 5, 6, 1, 0] rfl) ?_
          exact (hJ367 ())
      · refine E.m (h2.iconst (v := (0 : Int32)) dL_law_348 (by decide)) ?_
        exact E.some (fun q => q _ _ dL_law_349)
    refine E.sw (fun hc k => h.tabIn (tgt := 370) dL_law_40 (by rw [hc]; decide) (by rw [hc]; decide) (by rw [hc]; rfl) (by decide) k) ?_ (fun _ => ?_)
    · refine E.m (h.aload_n 1 dL_law_370 rfl) ?_
      refine E.m (h.aload_n 0 dL_law_371 rfl) ?_
      refine E.m (h.iload 4 dL_law_372 rfl) ?_
      refine E.m (h.iconst (v := (1 : Int32)) dL_law_374 (by decide)) ?_
      refine E.m (h.iadd dL_law_375) ?_
      refine E.gi (fun hi k => HS.sld hi dL_law_376 k) ?_
      refine E.m (h.aload_n 3 dL_law_377 rfl) ?_
      refine E.bnd (fun u23 M24 => w1 M24 381 [(0, .ref b), (1, .ref x), (2, .ref m), (3, .ref o), (4, .int i)] [.int u23]) (fun u23 M24 hf k => h3.callW (As := [.ref x, .int (xs (i + (1 : Int32)).toNatClampNeg), .ref o]) (rest := []) (c_L_set hfl hW h0 ho hf) lw_L_set ll_RL_96 rfl rfl (Nat.le_of_ble_eq_true rfl) (by decide) dL_law_378 k) (fun u23 M24 => ?_)
      refine E.m (h2.istore dL_law_381 (by decide) rfl) ?_
      refine E.m (h2.aload_n 3 dL_law_383 rfl) ?_
      refine E.m (h2.aload_n 1 dL_law_384 rfl) ?_
      refine E.m (h2.iload 5 dL_law_385 rfl) ?_
      refine E.m (h2.iconst (v := (1 : Int32)) dL_law_387 (by decide)) ?_
      refine E.m (h2.iadd dL_law_388) ?_
      refine E.gi (fun hi k => HS2.sld hi dL_law_389 k) ?_
      refine E.bnd (fun u25 M26 => w1 M26 393 [(5, .int u23), (0, .ref b), (1, .ref x), (2, .ref m), (3, .ref o), (4, .int i)] [.int u25]) (fun u25 M26 hf k => h2.callV (As := [.int (xs (i + (1 : Int32)).toNatClampNeg)]) (rest := []) (c_X11_set hW h1 hf) lm_X11_set lv_m_X11_set ll_RL_98 h1 lc_11 rfl rfl (Nat.le_of_ble_eq_true rfl) (by decide) dL_law_390 rfl k) (fun u25 M26 => ?_)
      refine E.m (h2.istore dL_law_393 (by decide) rfl) ?_
      refine E.m (h2.aload_n 4 dL_law_395 rfl) ?_
      refine E.bnd (fun u27 M28 => w1 M28 399 [(6, .int u25), (5, .int u23), (0, .ref b), (1, .ref x), (2, .ref m), (3, .ref o), (4, .int i)] [.int u27]) (fun u27 M28 hf k => h2.callV (As := []) (rest := []) (c_X11_thrown hW h1 hf) lm_X11_thrown lv_m_X11_thrown ll_RL_85 h1 lc_11 rfl rfl (Nat.le_of_ble_eq_true rfl) (by decide) dL_law_396 rfl k) (fun u27 M28 => ?_)
      refine E.m (h2.iload 1 dL_law_399 rfl) ?_
      refine E.br (fun k1 k2 => h2.icmp_eq (tgt := 406) dL_law_401 (by decide) k1 k2) ?_ ?_
      · refine E.m (h2.iload 1 dL_law_406 rfl) ?_
        refine E.join0 (fun _ => w1 M28 423 [(0, .ref b), (1, .ref x), (2, .ref m), (3, .ref o), (4, .int i), (5, .int u23), (6, .int u25)] []) (fun _ => ?_) (fun J423 hJ423 => ?_)
        · refine E.m (h2.goto (tgt := 1559) dL_law_423 (by decide)) ?_
          refine E.m (h2.sub [0, 1, 2, 3, 4] rfl) ?_
          exact (hJ1559 _)
        refine E.br (fun k1 k2 => h2.if_ne (tgt := 423) dL_law_408 (by decide) k2 k1) ?_ ?_
        · refine E.m (h2.aload_n 5 dL_law_411 rfl) ?_
          refine E.m (h2.iconst (v := (0 : Int32)) dL_law_412 (by decide)) ?_
          refine E.m (h2.lald ho (by decide) dL_law_413) ?_
          refine E.m (h2.iload 0 dL_law_414 rfl) ?_
          refine E.m (h2.i2l dL_law_416) ?_
          refine E.m (h2.lcmp dL_law_417) ?_
          refine E.br (fun k1 k2 => h2.if_eq (tgt := 423) dL_law_418 (by decide) k1 k2) ?_ ?_
          · refine E.m (h2.sub [2, 3, 4, 5, 6, 1, 0] rfl) ?_
            exact (hJ423 ())
          · refine E.m (h2.iconst (v := (0 : Int32)) dL_law_421 (by decide)) ?_
            exact E.some (fun q => q _ _ dL_law_422)
        · refine E.m (h2.sub [2, 3, 4, 5, 6, 1, 0] rfl) ?_
          exact (hJ423 ())
      · refine E.m (h2.iconst (v := (0 : Int32)) dL_law_404 (by decide)) ?_
        exact E.some (fun q => q _ _ dL_law_405)
    refine E.sw (fun hc k => h.tabIn (tgt := 426) dL_law_40 (by rw [hc]; decide) (by rw [hc]; decide) (by rw [hc]; rfl) (by decide) k) ?_ (fun _ => ?_)
    · refine E.m (h.aload_n 1 dL_law_426 rfl) ?_
      refine E.m (h.aload_n 0 dL_law_427 rfl) ?_
      refine E.m (h.iload 4 dL_law_428 rfl) ?_
      refine E.m (h.iconst (v := (1 : Int32)) dL_law_430 (by decide)) ?_
      refine E.m (h.iadd dL_law_431) ?_
      refine E.gi (fun hi k => HS.sld hi dL_law_432 k) ?_
      refine E.m (h.aload_n 0 dL_law_433 rfl) ?_
      refine E.m (h.iload 4 dL_law_434 rfl) ?_
      refine E.m (h.iconst (v := (2 : Int32)) dL_law_436 (by decide)) ?_
      refine E.m (h.iadd dL_law_437) ?_
      refine E.gi (fun hi k => HS.sld hi dL_law_438 k) ?_
      refine E.m (h.aload_n 3 dL_law_439 rfl) ?_
      refine E.bnd (fun u29 M30 => w1 M30 443 [(0, .ref b), (1, .ref x), (2, .ref m), (3, .ref o), (4, .int i)] [.int u29]) (fun u29 M30 hf k => h3.callW (As := [.ref x, .int (xs (i + (1 : Int32)).toNatClampNeg), .int (xs (i + (2 : Int32)).toNatClampNeg), .ref o]) (rest := []) (c_L_flying hfl hW h0 ho hf) lw_L_flying ll_RL_99 rfl rfl (Nat.le_of_ble_eq_true rfl) (by decide) dL_law_440 k) (fun u29 M30 => ?_)
      refine E.m (h2.istore dL_law_443 (by decide) rfl) ?_
      refine E.m (h2.aload_n 3 dL_law_445 rfl) ?_
      refine E.m (h2.aload_n 1 dL_law_446 rfl) ?_
      refine E.m (h2.iload 5 dL_law_447 rfl) ?_
      refine E.m (h2.iconst (v := (1 : Int32)) dL_law_449 (by decide)) ?_
      refine E.m (h2.iadd dL_law_450) ?_
      refine E.gi (fun hi k => HS2.sld hi dL_law_451 k) ?_
      refine E.m (h2.aload_n 1 dL_law_452 rfl) ?_
      refine E.m (h2.iload 5 dL_law_453 rfl) ?_
      refine E.m (h2.iconst (v := (2 : Int32)) dL_law_455 (by decide)) ?_
      refine E.m (h2.iadd dL_law_456) ?_
      refine E.gi (fun hi k => HS2.sld hi dL_law_457 k) ?_
      refine E.bnd (fun u31 M32 => w1 M32 461 [(5, .int u29), (0, .ref b), (1, .ref x), (2, .ref m), (3, .ref o), (4, .int i)] [.int u31]) (fun u31 M32 hf k => h2.callV (As := [.int (xs (i + (1 : Int32)).toNatClampNeg), .int (xs (i + (2 : Int32)).toNatClampNeg)]) (rest := []) (c_X11_flying hW h1 hf) lm_X11_flying lv_m_X11_flying ll_RL_102 h1 lc_11 rfl rfl (Nat.le_of_ble_eq_true rfl) (by decide) dL_law_458 rfl k) (fun u31 M32 => ?_)
      refine E.m (h2.istore dL_law_461 (by decide) rfl) ?_
      refine E.m (h2.aload_n 4 dL_law_463 rfl) ?_
      refine E.bnd (fun u33 M34 => w1 M34 467 [(6, .int u31), (5, .int u29), (0, .ref b), (1, .ref x), (2, .ref m), (3, .ref o), (4, .int i)] [.int u33]) (fun u33 M34 hf k => h2.callV (As := []) (rest := []) (c_X11_thrown hW h1 hf) lm_X11_thrown lv_m_X11_thrown ll_RL_85 h1 lc_11 rfl rfl (Nat.le_of_ble_eq_true rfl) (by decide) dL_law_464 rfl k) (fun u33 M34 => ?_)
      refine E.m (h2.iload 1 dL_law_467 rfl) ?_
      refine E.br (fun k1 k2 => h2.icmp_eq (tgt := 474) dL_law_469 (by decide) k1 k2) ?_ ?_
      · refine E.m (h2.iload 1 dL_law_474 rfl) ?_
        refine E.join0 (fun _ => w1 M34 491 [(0, .ref b), (1, .ref x), (2, .ref m), (3, .ref o), (4, .int i), (5, .int u29), (6, .int u31)] []) (fun _ => ?_) (fun J491 hJ491 => ?_)
        · refine E.m (h2.goto (tgt := 1559) dL_law_491 (by decide)) ?_
          refine E.m (h2.sub [0, 1, 2, 3, 4] rfl) ?_
          exact (hJ1559 _)
        refine E.br (fun k1 k2 => h2.if_ne (tgt := 491) dL_law_476 (by decide) k2 k1) ?_ ?_
        · refine E.m (h2.aload_n 5 dL_law_479 rfl) ?_
          refine E.m (h2.iconst (v := (0 : Int32)) dL_law_480 (by decide)) ?_
          refine E.m (h2.lald ho (by decide) dL_law_481) ?_
          refine E.m (h2.iload 0 dL_law_482 rfl) ?_
          refine E.m (h2.i2l dL_law_484) ?_
          refine E.m (h2.lcmp dL_law_485) ?_
          refine E.br (fun k1 k2 => h2.if_eq (tgt := 491) dL_law_486 (by decide) k1 k2) ?_ ?_
          · refine E.m (h2.sub [2, 3, 4, 5, 6, 1, 0] rfl) ?_
            exact (hJ491 ())
          · refine E.m (h2.iconst (v := (0 : Int32)) dL_law_489 (by decide)) ?_
            exact E.some (fun q => q _ _ dL_law_490)
        · refine E.m (h2.sub [2, 3, 4, 5, 6, 1, 0] rfl) ?_
          exact (hJ491 ())
      · refine E.m (h2.iconst (v := (0 : Int32)) dL_law_472 (by decide)) ?_
        exact E.some (fun q => q _ _ dL_law_473)
    refine E.sw (fun hc k => h.tabIn (tgt := 494) dL_law_40 (by rw [hc]; decide) (by rw [hc]; decide) (by rw [hc]; rfl) (by decide) k) ?_ (fun _ => ?_)
    · refine E.m (h.aload_n 1 dL_law_494 rfl) ?_
      refine E.m (h.aload_n 0 dL_law_495 rfl) ?_
      refine E.m (h.iload 4 dL_law_496 rfl) ?_
      refine E.m (h.iconst (v := (1 : Int32)) dL_law_498 (by decide)) ?_
      refine E.m (h.iadd dL_law_499) ?_
      refine E.gi (fun hi k => HS.sld hi dL_law_500 k) ?_
      refine E.m (h.aload_n 3 dL_law_501 rfl) ?_
      refine E.bnd (fun u35 M36 => w1 M36 505 [(0, .ref b), (1, .ref x), (2, .ref m), (3, .ref o), (4, .int i)] [.int u35]) (fun u35 M36 hf k => h3.callW (As := [.ref x, .int (xs (i + (1 : Int32)).toNatClampNeg), .ref o]) (rest := []) (c_L_slot hfl hW h0 ho hf) lw_L_slot ll_RL_103 rfl rfl (Nat.le_of_ble_eq_true rfl) (by decide) dL_law_502 k) (fun u35 M36 => ?_)
      refine E.m (h2.istore dL_law_505 (by decide) rfl) ?_
      refine E.m (h2.aload_n 3 dL_law_507 rfl) ?_
      refine E.m (h2.aload_n 1 dL_law_508 rfl) ?_
      refine E.m (h2.iload 5 dL_law_509 rfl) ?_
      refine E.m (h2.iconst (v := (1 : Int32)) dL_law_511 (by decide)) ?_
      refine E.m (h2.iadd dL_law_512) ?_
      refine E.gi (fun hi k => HS2.sld hi dL_law_513 k) ?_
      refine E.bnd (fun u37 M38 => w1 M38 517 [(5, .int u35), (0, .ref b), (1, .ref x), (2, .ref m), (3, .ref o), (4, .int i)] [.int u37]) (fun u37 M38 hf k => h2.callV (As := [.int (xs (i + (1 : Int32)).toNatClampNeg)]) (rest := []) (c_X11_slot hW h1 hf) lm_X11_slot lv_m_X11_slot ll_RL_105 h1 lc_11 rfl rfl (Nat.le_of_ble_eq_true rfl) (by decide) dL_law_514 rfl k) (fun u37 M38 => ?_)
      refine E.m (h2.istore dL_law_517 (by decide) rfl) ?_
      refine E.m (h2.aload_n 4 dL_law_519 rfl) ?_
      refine E.bnd (fun u39 M40 => w1 M40 523 [(6, .int u37), (5, .int u35), (0, .ref b), (1, .ref x), (2, .ref m), (3, .ref o), (4, .int i)] [.int u39]) (fun u39 M40 hf k => h2.callV (As := []) (rest := []) (c_X11_thrown hW h1 hf) lm_X11_thrown lv_m_X11_thrown ll_RL_85 h1 lc_11 rfl rfl (Nat.le_of_ble_eq_true rfl) (by decide) dL_law_520 rfl k) (fun u39 M40 => ?_)
      refine E.m (h2.iload 1 dL_law_523 rfl) ?_
      refine E.br (fun k1 k2 => h2.icmp_eq (tgt := 530) dL_law_525 (by decide) k1 k2) ?_ ?_
      · refine E.m (h2.iload 1 dL_law_530 rfl) ?_
        refine E.join0 (fun _ => w1 M40 547 [(0, .ref b), (1, .ref x), (2, .ref m), (3, .ref o), (4, .int i), (5, .int u35), (6, .int u37)] []) (fun _ => ?_) (fun J547 hJ547 => ?_)
        · refine E.m (h2.goto (tgt := 1559) dL_law_547 (by decide)) ?_
          refine E.m (h2.sub [0, 1, 2, 3, 4] rfl) ?_
          exact (hJ1559 _)
        refine E.br (fun k1 k2 => h2.if_ne (tgt := 547) dL_law_532 (by decide) k2 k1) ?_ ?_
        · refine E.m (h2.aload_n 5 dL_law_535 rfl) ?_
          refine E.m (h2.iconst (v := (0 : Int32)) dL_law_536 (by decide)) ?_
          refine E.m (h2.lald ho (by decide) dL_law_537) ?_
          refine E.m (h2.iload 0 dL_law_538 rfl) ?_
          refine E.m (h2.i2l dL_law_540) ?_
          refine E.m (h2.lcmp dL_law_541) ?_
          refine E.br (fun k1 k2 => h2.if_eq (tgt := 547) dL_law_542 (by decide) k1 k2) ?_ ?_
          · refine E.m (h2.sub [2, 3, 4, 5, 6, 1, 0] rfl) ?_
            exact (hJ547 ())
          · refine E.m (h2.iconst (v := (0 : Int32)) dL_law_545 (by decide)) ?_
            exact E.some (fun q => q _ _ dL_law_546)
        · refine E.m (h2.sub [2, 3, 4, 5, 6, 1, 0] rfl) ?_
          exact (hJ547 ())
      · refine E.m (h2.iconst (v := (0 : Int32)) dL_law_528 (by decide)) ?_
        exact E.some (fun q => q _ _ dL_law_529)
    refine E.sw (fun hc k => h.tabIn (tgt := 550) dL_law_40 (by rw [hc]; decide) (by rw [hc]; decide) (by rw [hc]; rfl) (by decide) k) ?_ (fun _ => ?_)
    · refine E.m (h.aload_n 1 dL_law_550 rfl) ?_
      refine E.m (h.aload_n 0 dL_law_551 rfl) ?_
      refine E.m (h.iload 4 dL_law_552 rfl) ?_
      refine E.m (h.iconst (v := (1 : Int32)) dL_law_554 (by decide)) ?_
      refine E.m (h.iadd dL_law_555) ?_
      refine E.gi (fun hi k => HS.sld hi dL_law_556 k) ?_
      refine E.m (h.aload_n 0 dL_law_557 rfl) ?_
      refine E.m (h.iload 4 dL_law_558 rfl) ?_
      refine E.m (h.iconst (v := (2 : Int32)) dL_law_560 (by decide)) ?_
      refine E.m (h.iadd dL_law_561) ?_
      refine E.gi (fun hi k => HS.sld hi dL_law_562 k) ?_
      refine E.m (h.aload_n 3 dL_law_563 rfl) ?_
      refine E.bnd (fun u41 M42 => w1 M42 567 [(0, .ref b), (1, .ref x), (2, .ref m), (3, .ref o), (4, .int i)] [.int u41]) (fun u41 M42 hf k => h3.callW (As := [.ref x, .int (xs (i + (1 : Int32)).toNatClampNeg), .int (xs (i + (2 : Int32)).toNatClampNeg), .ref o]) (rest := []) (c_L_played hfl hW h0 ho hf) lw_L_played ll_RL_106 rfl rfl (Nat.le_of_ble_eq_true rfl) (by decide) dL_law_564 k) (fun u41 M42 => ?_)
      refine E.m (h2.istore dL_law_567 (by decide) rfl) ?_
      refine E.m (h2.aload_n 3 dL_law_569 rfl) ?_
      refine E.m (h2.aload_n 1 dL_law_570 rfl) ?_
      refine E.m (h2.iload 5 dL_law_571 rfl) ?_
      refine E.m (h2.iconst (v := (1 : Int32)) dL_law_573 (by decide)) ?_
      refine E.m (h2.iadd dL_law_574) ?_
      refine E.gi (fun hi k => HS2.sld hi dL_law_575 k) ?_
      refine E.m (h2.aload_n 1 dL_law_576 rfl) ?_
      refine E.m (h2.iload 5 dL_law_577 rfl) ?_
      refine E.m (h2.iconst (v := (2 : Int32)) dL_law_579 (by decide)) ?_
      refine E.m (h2.iadd dL_law_580) ?_
      refine E.gi (fun hi k => HS2.sld hi dL_law_581 k) ?_
      refine E.bnd (fun u43 M44 => w1 M44 585 [(5, .int u41), (0, .ref b), (1, .ref x), (2, .ref m), (3, .ref o), (4, .int i)] [.int u43]) (fun u43 M44 hf k => h2.callV (As := [.int (xs (i + (1 : Int32)).toNatClampNeg), .int (xs (i + (2 : Int32)).toNatClampNeg)]) (rest := []) (c_X11_played hW h1 hf) lm_X11_played lv_m_X11_played ll_RL_108 h1 lc_11 rfl rfl (Nat.le_of_ble_eq_true rfl) (by decide) dL_law_582 rfl k) (fun u43 M44 => ?_)
      refine E.m (h2.istore dL_law_585 (by decide) rfl) ?_
      refine E.m (h2.aload_n 4 dL_law_587 rfl) ?_
      refine E.bnd (fun u45 M46 => w1 M46 591 [(6, .int u43), (5, .int u41), (0, .ref b), (1, .ref x), (2, .ref m), (3, .ref o), (4, .int i)] [.int u45]) (fun u45 M46 hf k => h2.callV (As := []) (rest := []) (c_X11_thrown hW h1 hf) lm_X11_thrown lv_m_X11_thrown ll_RL_85 h1 lc_11 rfl rfl (Nat.le_of_ble_eq_true rfl) (by decide) dL_law_588 rfl k) (fun u45 M46 => ?_)
      refine E.m (h2.iload 1 dL_law_591 rfl) ?_
      refine E.br (fun k1 k2 => h2.icmp_eq (tgt := 598) dL_law_593 (by decide) k1 k2) ?_ ?_
      · refine E.m (h2.iload 1 dL_law_598 rfl) ?_
        refine E.join0 (fun _ => w1 M46 615 [(0, .ref b), (1, .ref x), (2, .ref m), (3, .ref o), (4, .int i), (5, .int u41), (6, .int u43)] []) (fun _ => ?_) (fun J615 hJ615 => ?_)
        · refine E.m (h2.goto (tgt := 1559) dL_law_615 (by decide)) ?_
          refine E.m (h2.sub [0, 1, 2, 3, 4] rfl) ?_
          exact (hJ1559 _)
        refine E.br (fun k1 k2 => h2.if_ne (tgt := 615) dL_law_600 (by decide) k2 k1) ?_ ?_
        · refine E.m (h2.aload_n 5 dL_law_603 rfl) ?_
          refine E.m (h2.iconst (v := (0 : Int32)) dL_law_604 (by decide)) ?_
          refine E.m (h2.lald ho (by decide) dL_law_605) ?_
          refine E.m (h2.iload 0 dL_law_606 rfl) ?_
          refine E.m (h2.i2l dL_law_608) ?_
          refine E.m (h2.lcmp dL_law_609) ?_
          refine E.br (fun k1 k2 => h2.if_eq (tgt := 615) dL_law_610 (by decide) k1 k2) ?_ ?_
          · refine E.m (h2.sub [2, 3, 4, 5, 6, 1, 0] rfl) ?_
            exact (hJ615 ())
          · refine E.m (h2.iconst (v := (0 : Int32)) dL_law_613 (by decide)) ?_
            exact E.some (fun q => q _ _ dL_law_614)
        · refine E.m (h2.sub [2, 3, 4, 5, 6, 1, 0] rfl) ?_
          exact (hJ615 ())
      · refine E.m (h2.iconst (v := (0 : Int32)) dL_law_596 (by decide)) ?_
        exact E.some (fun q => q _ _ dL_law_597)
    refine E.sw (fun hc k => h.tabIn (tgt := 618) dL_law_40 (by rw [hc]; decide) (by rw [hc]; decide) (by rw [hc]; rfl) (by decide) k) ?_ (fun _ => ?_)
    · refine E.m (h.aload_n 1 dL_law_618 rfl) ?_
      refine E.m (h.aload_n 0 dL_law_619 rfl) ?_
      refine E.m (h.iload 4 dL_law_620 rfl) ?_
      refine E.m (h.iconst (v := (1 : Int32)) dL_law_622 (by decide)) ?_
      refine E.m (h.iadd dL_law_623) ?_
      refine E.gi (fun hi k => HS.sld hi dL_law_624 k) ?_
      refine E.m (h.aload_n 0 dL_law_625 rfl) ?_
      refine E.m (h.iload 4 dL_law_626 rfl) ?_
      refine E.m (h.iconst (v := (2 : Int32)) dL_law_628 (by decide)) ?_
      refine E.m (h.iadd dL_law_629) ?_
      refine E.gi (fun hi k => HS.sld hi dL_law_630 k) ?_
      refine E.m (h.aload_n 3 dL_law_631 rfl) ?_
      refine E.bnd (fun u47 M48 => w1 M48 635 [(0, .ref b), (1, .ref x), (2, .ref m), (3, .ref o), (4, .int i)] [.int u47]) (fun u47 M48 hf k => h3.callW (As := [.ref x, .int (xs (i + (1 : Int32)).toNatClampNeg), .int (xs (i + (2 : Int32)).toNatClampNeg), .ref o]) (rest := []) (c_L_spans hfl hW h0 ho hf) lw_L_spans ll_RL_109 rfl rfl (Nat.le_of_ble_eq_true rfl) (by decide) dL_law_632 k) (fun u47 M48 => ?_)
      refine E.m (h2.istore dL_law_635 (by decide) rfl) ?_
      refine E.m (h2.aload_n 3 dL_law_637 rfl) ?_
      refine E.m (h2.aload_n 1 dL_law_638 rfl) ?_
      refine E.m (h2.iload 5 dL_law_639 rfl) ?_
      refine E.m (h2.iconst (v := (1 : Int32)) dL_law_641 (by decide)) ?_
      refine E.m (h2.iadd dL_law_642) ?_
      refine E.gi (fun hi k => HS2.sld hi dL_law_643 k) ?_
      refine E.m (h2.aload_n 1 dL_law_644 rfl) ?_
      refine E.m (h2.iload 5 dL_law_645 rfl) ?_
      refine E.m (h2.iconst (v := (2 : Int32)) dL_law_647 (by decide)) ?_
      refine E.m (h2.iadd dL_law_648) ?_
      refine E.gi (fun hi k => HS2.sld hi dL_law_649 k) ?_
      refine E.bnd (fun u49 M50 => w1 M50 653 [(5, .int u47), (0, .ref b), (1, .ref x), (2, .ref m), (3, .ref o), (4, .int i)] [.int u49]) (fun u49 M50 hf k => h2.callV (As := [.int (xs (i + (1 : Int32)).toNatClampNeg), .int (xs (i + (2 : Int32)).toNatClampNeg)]) (rest := []) (c_X11_spans hW h1 hf) lm_X11_spans lv_m_X11_spans ll_RL_111 h1 lc_11 rfl rfl (Nat.le_of_ble_eq_true rfl) (by decide) dL_law_650 rfl k) (fun u49 M50 => ?_)
      refine E.m (h2.istore dL_law_653 (by decide) rfl) ?_
      refine E.m (h2.aload_n 4 dL_law_655 rfl) ?_
      refine E.bnd (fun u51 M52 => w1 M52 659 [(6, .int u49), (5, .int u47), (0, .ref b), (1, .ref x), (2, .ref m), (3, .ref o), (4, .int i)] [.int u51]) (fun u51 M52 hf k => h2.callV (As := []) (rest := []) (c_X11_thrown hW h1 hf) lm_X11_thrown lv_m_X11_thrown ll_RL_85 h1 lc_11 rfl rfl (Nat.le_of_ble_eq_true rfl) (by decide) dL_law_656 rfl k) (fun u51 M52 => ?_)
      refine E.m (h2.iload 1 dL_law_659 rfl) ?_
      refine E.br (fun k1 k2 => h2.icmp_eq (tgt := 666) dL_law_661 (by decide) k1 k2) ?_ ?_
      · refine E.m (h2.iload 1 dL_law_666 rfl) ?_
        refine E.join0 (fun _ => w1 M52 683 [(0, .ref b), (1, .ref x), (2, .ref m), (3, .ref o), (4, .int i), (5, .int u47), (6, .int u49)] []) (fun _ => ?_) (fun J683 hJ683 => ?_)
        · refine E.m (h2.goto (tgt := 1559) dL_law_683 (by decide)) ?_
          refine E.m (h2.sub [0, 1, 2, 3, 4] rfl) ?_
          exact (hJ1559 _)
        refine E.br (fun k1 k2 => h2.if_ne (tgt := 683) dL_law_668 (by decide) k2 k1) ?_ ?_
        · refine E.m (h2.aload_n 5 dL_law_671 rfl) ?_
          refine E.m (h2.iconst (v := (0 : Int32)) dL_law_672 (by decide)) ?_
          refine E.m (h2.lald ho (by decide) dL_law_673) ?_
          refine E.m (h2.iload 0 dL_law_674 rfl) ?_
          refine E.m (h2.i2l dL_law_676) ?_
          refine E.m (h2.lcmp dL_law_677) ?_
          refine E.br (fun k1 k2 => h2.if_eq (tgt := 683) dL_law_678 (by decide) k1 k2) ?_ ?_
          · refine E.m (h2.sub [2, 3, 4, 5, 6, 1, 0] rfl) ?_
            exact (hJ683 ())
          · refine E.m (h2.iconst (v := (0 : Int32)) dL_law_681 (by decide)) ?_
            exact E.some (fun q => q _ _ dL_law_682)
        · refine E.m (h2.sub [2, 3, 4, 5, 6, 1, 0] rfl) ?_
          exact (hJ683 ())
      · refine E.m (h2.iconst (v := (0 : Int32)) dL_law_664 (by decide)) ?_
        exact E.some (fun q => q _ _ dL_law_665)
    refine E.sw (fun hc k => h.tabIn (tgt := 686) dL_law_40 (by rw [hc]; decide) (by rw [hc]; decide) (by rw [hc]; rfl) (by decide) k) ?_ (fun _ => ?_)
    · refine E.m (h.aload_n 1 dL_law_686 rfl) ?_
      refine E.m (h.aload_n 0 dL_law_687 rfl) ?_
      refine E.m (h.iload 4 dL_law_688 rfl) ?_
      refine E.m (h.iconst (v := (1 : Int32)) dL_law_690 (by decide)) ?_
      refine E.m (h.iadd dL_law_691) ?_
      refine E.gi (fun hi k => HS.sld hi dL_law_692 k) ?_
      refine E.m (h.aload_n 3 dL_law_693 rfl) ?_
      refine E.bnd (fun u53 M54 => w1 M54 697 [(0, .ref b), (1, .ref x), (2, .ref m), (3, .ref o), (4, .int i)] [.int u53]) (fun u53 M54 hf k => h3.callW (As := [.ref x, .int (xs (i + (1 : Int32)).toNatClampNeg), .ref o]) (rest := []) (c_L_sample hfl hW h0 ho hf) lw_L_sample ll_RL_112 rfl rfl (Nat.le_of_ble_eq_true rfl) (by decide) dL_law_694 k) (fun u53 M54 => ?_)
      refine E.m (h2.istore dL_law_697 (by decide) rfl) ?_
      refine E.m (h2.aload_n 3 dL_law_699 rfl) ?_
      refine E.m (h2.aload_n 1 dL_law_700 rfl) ?_
      refine E.m (h2.iload 5 dL_law_701 rfl) ?_
      refine E.m (h2.iconst (v := (1 : Int32)) dL_law_703 (by decide)) ?_
      refine E.m (h2.iadd dL_law_704) ?_
      refine E.gi (fun hi k => HS2.sld hi dL_law_705 k) ?_
      refine E.bnd (fun u55 M56 => w1 M56 709 [(5, .int u53), (0, .ref b), (1, .ref x), (2, .ref m), (3, .ref o), (4, .int i)] [.int u55]) (fun u55 M56 hf k => h2.callV (As := [.int (xs (i + (1 : Int32)).toNatClampNeg)]) (rest := []) (c_X11_sample hW h1 hf) lm_X11_sample lv_m_X11_sample ll_RL_114 h1 lc_11 rfl rfl (Nat.le_of_ble_eq_true rfl) (by decide) dL_law_706 rfl k) (fun u55 M56 => ?_)
      refine E.m (h2.istore dL_law_709 (by decide) rfl) ?_
      refine E.m (h2.aload_n 4 dL_law_711 rfl) ?_
      refine E.bnd (fun u57 M58 => w1 M58 715 [(6, .int u55), (5, .int u53), (0, .ref b), (1, .ref x), (2, .ref m), (3, .ref o), (4, .int i)] [.int u57]) (fun u57 M58 hf k => h2.callV (As := []) (rest := []) (c_X11_thrown hW h1 hf) lm_X11_thrown lv_m_X11_thrown ll_RL_85 h1 lc_11 rfl rfl (Nat.le_of_ble_eq_true rfl) (by decide) dL_law_712 rfl k) (fun u57 M58 => ?_)
      refine E.m (h2.iload 1 dL_law_715 rfl) ?_
      refine E.br (fun k1 k2 => h2.icmp_eq (tgt := 722) dL_law_717 (by decide) k1 k2) ?_ ?_
      · refine E.m (h2.iload 1 dL_law_722 rfl) ?_
        refine E.join0 (fun _ => w1 M58 739 [(0, .ref b), (1, .ref x), (2, .ref m), (3, .ref o), (4, .int i), (5, .int u53), (6, .int u55)] []) (fun _ => ?_) (fun J739 hJ739 => ?_)
        · refine E.m (h2.goto (tgt := 1559) dL_law_739 (by decide)) ?_
          refine E.m (h2.sub [0, 1, 2, 3, 4] rfl) ?_
          exact (hJ1559 _)
        refine E.br (fun k1 k2 => h2.if_ne (tgt := 739) dL_law_724 (by decide) k2 k1) ?_ ?_
        · refine E.m (h2.aload_n 5 dL_law_727 rfl) ?_
          refine E.m (h2.iconst (v := (0 : Int32)) dL_law_728 (by decide)) ?_
          refine E.m (h2.lald ho (by decide) dL_law_729) ?_
          refine E.m (h2.iload 0 dL_law_730 rfl) ?_
          refine E.m (h2.i2l dL_law_732) ?_
          refine E.m (h2.lcmp dL_law_733) ?_
          refine E.br (fun k1 k2 => h2.if_eq (tgt := 739) dL_law_734 (by decide) k1 k2) ?_ ?_
          · refine E.m (h2.sub [2, 3, 4, 5, 6, 1, 0] rfl) ?_
            exact (hJ739 ())
          · refine E.m (h2.iconst (v := (0 : Int32)) dL_law_737 (by decide)) ?_
            exact E.some (fun q => q _ _ dL_law_738)
        · refine E.m (h2.sub [2, 3, 4, 5, 6, 1, 0] rfl) ?_
          exact (hJ739 ())
      · refine E.m (h2.iconst (v := (0 : Int32)) dL_law_720 (by decide)) ?_
        exact E.some (fun q => q _ _ dL_law_721)
    refine E.sw (fun hc k => h.tabIn (tgt := 742) dL_law_40 (by rw [hc]; decide) (by rw [hc]; decide) (by rw [hc]; rfl) (by decide) k) ?_ (fun _ => ?_)
    · refine E.m (h.aload_n 1 dL_law_742 rfl) ?_
      refine E.m (h.aload_n 0 dL_law_743 rfl) ?_
      refine E.m (h.iload 4 dL_law_744 rfl) ?_
      refine E.m (h.iconst (v := (1 : Int32)) dL_law_746 (by decide)) ?_
      refine E.m (h.iadd dL_law_747) ?_
      refine E.gi (fun hi k => HS.sld hi dL_law_748 k) ?_
      refine E.m (h.aload_n 3 dL_law_749 rfl) ?_
      refine E.bnd (fun u59 M60 => w1 M60 753 [(0, .ref b), (1, .ref x), (2, .ref m), (3, .ref o), (4, .int i)] [.int u59]) (fun u59 M60 hf k => h3.callW (As := [.ref x, .int (xs (i + (1 : Int32)).toNatClampNeg), .ref o]) (rest := []) (c_L_wander hfl hW h0 ho hf) lw_L_wander ll_RL_115 rfl rfl (Nat.le_of_ble_eq_true rfl) (by decide) dL_law_750 k) (fun u59 M60 => ?_)
      refine E.m (h2.istore dL_law_753 (by decide) rfl) ?_
      refine E.m (h2.aload_n 3 dL_law_755 rfl) ?_
      refine E.m (h2.aload_n 1 dL_law_756 rfl) ?_
      refine E.m (h2.iload 5 dL_law_757 rfl) ?_
      refine E.m (h2.iconst (v := (1 : Int32)) dL_law_759 (by decide)) ?_
      refine E.m (h2.iadd dL_law_760) ?_
      refine E.gi (fun hi k => HS2.sld hi dL_law_761 k) ?_
      refine E.bnd (fun u61 M62 => w1 M62 765 [(5, .int u59), (0, .ref b), (1, .ref x), (2, .ref m), (3, .ref o), (4, .int i)] [.int u61]) (fun u61 M62 hf k => h2.callV (As := [.int (xs (i + (1 : Int32)).toNatClampNeg)]) (rest := []) (c_X11_wander hW h1 hf) lm_X11_wander lv_m_X11_wander ll_RL_117 h1 lc_11 rfl rfl (Nat.le_of_ble_eq_true rfl) (by decide) dL_law_762 rfl k) (fun u61 M62 => ?_)
      refine E.m (h2.istore dL_law_765 (by decide) rfl) ?_
      refine E.m (h2.aload_n 4 dL_law_767 rfl) ?_
      refine E.bnd (fun u63 M64 => w1 M64 771 [(6, .int u61), (5, .int u59), (0, .ref b), (1, .ref x), (2, .ref m), (3, .ref o), (4, .int i)] [.int u63]) (fun u63 M64 hf k => h2.callV (As := []) (rest := []) (c_X11_thrown hW h1 hf) lm_X11_thrown lv_m_X11_thrown ll_RL_85 h1 lc_11 rfl rfl (Nat.le_of_ble_eq_true rfl) (by decide) dL_law_768 rfl k) (fun u63 M64 => ?_)
      refine E.m (h2.iload 1 dL_law_771 rfl) ?_
      refine E.br (fun k1 k2 => h2.icmp_eq (tgt := 778) dL_law_773 (by decide) k1 k2) ?_ ?_
      · refine E.m (h2.iload 1 dL_law_778 rfl) ?_
        refine E.join0 (fun _ => w1 M64 795 [(0, .ref b), (1, .ref x), (2, .ref m), (3, .ref o), (4, .int i), (5, .int u59), (6, .int u61)] []) (fun _ => ?_) (fun J795 hJ795 => ?_)
        · refine E.m (h2.goto (tgt := 1559) dL_law_795 (by decide)) ?_
          refine E.m (h2.sub [0, 1, 2, 3, 4] rfl) ?_
          exact (hJ1559 _)
        refine E.br (fun k1 k2 => h2.if_ne (tgt := 795) dL_law_780 (by decide) k2 k1) ?_ ?_
        · refine E.m (h2.aload_n 5 dL_law_783 rfl) ?_
          refine E.m (h2.iconst (v := (0 : Int32)) dL_law_784 (by decide)) ?_
          refine E.m (h2.lald ho (by decide) dL_law_785) ?_
          refine E.m (h2.iload 0 dL_law_786 rfl) ?_
          refine E.m (h2.i2l dL_law_788) ?_
          refine E.m (h2.lcmp dL_law_789) ?_
          refine E.br (fun k1 k2 => h2.if_eq (tgt := 795) dL_law_790 (by decide) k1 k2) ?_ ?_
          · refine E.m (h2.sub [2, 3, 4, 5, 6, 1, 0] rfl) ?_
            exact (hJ795 ())
          · refine E.m (h2.iconst (v := (0 : Int32)) dL_law_793 (by decide)) ?_
            exact E.some (fun q => q _ _ dL_law_794)
        · refine E.m (h2.sub [2, 3, 4, 5, 6, 1, 0] rfl) ?_
          exact (hJ795 ())
      · refine E.m (h2.iconst (v := (0 : Int32)) dL_law_776 (by decide)) ?_
        exact E.some (fun q => q _ _ dL_law_777)
    refine E.sw (fun hc k => h.tabIn (tgt := 798) dL_law_40 (by rw [hc]; decide) (by rw [hc]; decide) (by rw [hc]; rfl) (by decide) k) ?_ (fun _ => ?_)
    · refine E.m (h.aload_n 1 dL_law_798 rfl) ?_
      refine E.m (h.aload_n 0 dL_law_799 rfl) ?_
      refine E.m (h.iload 4 dL_law_800 rfl) ?_
      refine E.m (h.iconst (v := (1 : Int32)) dL_law_802 (by decide)) ?_
      refine E.m (h.iadd dL_law_803) ?_
      refine E.gi (fun hi k => HS.sld hi dL_law_804 k) ?_
      refine E.bnd (fun u65 M66 => w M66 808 [(0, .ref b), (1, .ref x), (2, .ref m), (3, .ref o), (4, .int i)] [.int u65]) (fun u65 M66 hf k => h.callV (As := [.int (xs (i + (1 : Int32)).toNatClampNeg)]) (rest := []) (c_X10_steps hW h0 hf) lm_X10_steps lv_m_X10_steps ll_RL_118 h0 lc_10 rfl rfl (Nat.le_of_ble_eq_true rfl) (by decide) dL_law_805 rfl k) (fun u65 M66 => ?_)
      refine E.m (h.aload_n 2 dL_law_808 rfl) ?_
      refine E.m (h.aload_n 0 dL_law_809 rfl) ?_
      refine E.m (h.iload 4 dL_law_810 rfl) ?_
      refine E.m (h.iconst (v := (1 : Int32)) dL_law_812 (by decide)) ?_
      refine E.m (h.iadd dL_law_813) ?_
      refine E.gi (fun hi k => HS.sld hi dL_law_814 k) ?_
      refine E.bnd (fun u67 M68 => w M68 818 [(0, .ref b), (1, .ref x), (2, .ref m), (3, .ref o), (4, .int i)] [.int u67, .int u65]) (fun u67 M68 hf k => h.callV (As := [.int (xs (i + (1 : Int32)).toNatClampNeg)]) (rest := [.int u65]) (c_X11_steps hW h1 hf) lm_X11_steps lv_m_X11_steps ll_RL_121 h1 lc_11 rfl rfl (Nat.le_of_ble_eq_true rfl) (by decide) dL_law_815 rfl k) (fun u67 M68 => ?_)
      refine E.br (fun k1 k2 => h.icmp_eq (tgt := 1559) dL_law_818 (by decide) k1 k2) ?_ ?_
      · exact E.m (fun k => h3.wid k) (hJ1559 _)
      · refine E.m (h.iconst (v := (0 : Int32)) dL_law_821 (by decide)) ?_
        exact E.some (fun q => h3.wid (q _ _ dL_law_822))
    refine E.sw (fun hc k => h.tabIn (tgt := 823) dL_law_40 (by rw [hc]; decide) (by rw [hc]; decide) (by rw [hc]; rfl) (by decide) k) ?_ (fun _ => ?_)
    · refine E.m (h.aload_n 1 dL_law_823 rfl) ?_
      refine E.m (h.aload_n 0 dL_law_824 rfl) ?_
      refine E.m (h.iload 4 dL_law_825 rfl) ?_
      refine E.m (h.iconst (v := (1 : Int32)) dL_law_827 (by decide)) ?_
      refine E.m (h.iadd dL_law_828) ?_
      refine E.gi (fun hi k => HS.sld hi dL_law_829 k) ?_
      refine E.bnd (fun u69 M70 => w M70 833 [(0, .ref b), (1, .ref x), (2, .ref m), (3, .ref o), (4, .int i)] [.int u69]) (fun u69 M70 hf k => h.callV (As := [.int (xs (i + (1 : Int32)).toNatClampNeg)]) (rest := []) (c_X10_lose hW h0 hf) lm_X10_lose lv_m_X10_lose ll_RL_122 h0 lc_10 rfl rfl (Nat.le_of_ble_eq_true rfl) (by decide) dL_law_830 rfl k) (fun u69 M70 => ?_)
      refine E.m (h.aload_n 2 dL_law_833 rfl) ?_
      refine E.m (h.aload_n 0 dL_law_834 rfl) ?_
      refine E.m (h.iload 4 dL_law_835 rfl) ?_
      refine E.m (h.iconst (v := (1 : Int32)) dL_law_837 (by decide)) ?_
      refine E.m (h.iadd dL_law_838) ?_
      refine E.gi (fun hi k => HS.sld hi dL_law_839 k) ?_
      refine E.bnd (fun u71 M72 => w M72 843 [(0, .ref b), (1, .ref x), (2, .ref m), (3, .ref o), (4, .int i)] [.int u71, .int u69]) (fun u71 M72 hf k => h.callV (As := [.int (xs (i + (1 : Int32)).toNatClampNeg)]) (rest := [.int u69]) (c_X11_lose hW h1 hf) lm_X11_lose lv_m_X11_lose ll_RL_125 h1 lc_11 rfl rfl (Nat.le_of_ble_eq_true rfl) (by decide) dL_law_840 rfl k) (fun u71 M72 => ?_)
      refine E.br (fun k1 k2 => h.icmp_eq (tgt := 1559) dL_law_843 (by decide) k1 k2) ?_ ?_
      · exact E.m (fun k => h3.wid k) (hJ1559 _)
      · refine E.m (h.iconst (v := (0 : Int32)) dL_law_846 (by decide)) ?_
        exact E.some (fun q => h3.wid (q _ _ dL_law_847))
    refine E.sw (fun hc k => h.tabIn (tgt := 848) dL_law_40 (by rw [hc]; decide) (by rw [hc]; decide) (by rw [hc]; rfl) (by decide) k) ?_ (fun _ => ?_)
    · refine E.m (h.aload_n 1 dL_law_848 rfl) ?_
      refine E.m (h.aload_n 0 dL_law_849 rfl) ?_
      refine E.m (h.iload 4 dL_law_850 rfl) ?_
      refine E.m (h.iconst (v := (1 : Int32)) dL_law_852 (by decide)) ?_
      refine E.m (h.iadd dL_law_853) ?_
      refine E.gi (fun hi k => HS.sld hi dL_law_854 k) ?_
      refine E.bnd (fun u73 M74 => w M74 858 [(0, .ref b), (1, .ref x), (2, .ref m), (3, .ref o), (4, .int i)] [.int u73]) (fun u73 M74 hf k => h.callV (As := [.int (xs (i + (1 : Int32)).toNatClampNeg)]) (rest := []) (c_X10_stall hW h0 hf) lm_X10_stall lv_m_X10_stall ll_RL_126 h0 lc_10 rfl rfl (Nat.le_of_ble_eq_true rfl) (by decide) dL_law_855 rfl k) (fun u73 M74 => ?_)
      refine E.m (h.aload_n 2 dL_law_858 rfl) ?_
      refine E.m (h.aload_n 0 dL_law_859 rfl) ?_
      refine E.m (h.iload 4 dL_law_860 rfl) ?_
      refine E.m (h.iconst (v := (1 : Int32)) dL_law_862 (by decide)) ?_
      refine E.m (h.iadd dL_law_863) ?_
      refine E.gi (fun hi k => HS.sld hi dL_law_864 k) ?_
      refine E.bnd (fun u75 M76 => w M76 868 [(0, .ref b), (1, .ref x), (2, .ref m), (3, .ref o), (4, .int i)] [.int u75, .int u73]) (fun u75 M76 hf k => h.callV (As := [.int (xs (i + (1 : Int32)).toNatClampNeg)]) (rest := [.int u73]) (c_X11_stall hW h1 hf) lm_X11_stall lv_m_X11_stall ll_RL_129 h1 lc_11 rfl rfl (Nat.le_of_ble_eq_true rfl) (by decide) dL_law_865 rfl k) (fun u75 M76 => ?_)
      refine E.br (fun k1 k2 => h.icmp_eq (tgt := 1559) dL_law_868 (by decide) k1 k2) ?_ ?_
      · exact E.m (fun k => h3.wid k) (hJ1559 _)
      · refine E.m (h.iconst (v := (0 : Int32)) dL_law_871 (by decide)) ?_
        exact E.some (fun q => h3.wid (q _ _ dL_law_872))
    refine E.sw (fun hc k => h.tabIn (tgt := 873) dL_law_40 (by rw [hc]; decide) (by rw [hc]; decide) (by rw [hc]; rfl) (by decide) k) ?_ (fun _ => ?_)
    · refine E.m (h.aload_n 1 dL_law_873 rfl) ?_
      refine E.m (h.aload_n 0 dL_law_874 rfl) ?_
      refine E.m (h.iload 4 dL_law_875 rfl) ?_
      refine E.m (h.iconst (v := (1 : Int32)) dL_law_877 (by decide)) ?_
      refine E.m (h.iadd dL_law_878) ?_
      refine E.gi (fun hi k => HS.sld hi dL_law_879 k) ?_
      refine E.m (h.aload_n 0 dL_law_880 rfl) ?_
      refine E.m (h.iload 4 dL_law_881 rfl) ?_
      refine E.m (h.iconst (v := (2 : Int32)) dL_law_883 (by decide)) ?_
      refine E.m (h.iadd dL_law_884) ?_
      refine E.gi (fun hi k => HS.sld hi dL_law_885 k) ?_
      refine E.m (h.aload_n 3 dL_law_886 rfl) ?_
      refine E.bnd (fun u77 M78 => w1 M78 890 [(0, .ref b), (1, .ref x), (2, .ref m), (3, .ref o), (4, .int i)] [.int u77]) (fun u77 M78 hf k => h3.callW (As := [.ref x, .int (xs (i + (1 : Int32)).toNatClampNeg), .int (xs (i + (2 : Int32)).toNatClampNeg), .ref o]) (rest := []) (c_L_turn hfl hW h0 ho hf) lw_L_turn ll_RL_130 rfl rfl (Nat.le_of_ble_eq_true rfl) (by decide) dL_law_887 k) (fun u77 M78 => ?_)
      refine E.m (h2.istore dL_law_890 (by decide) rfl) ?_
      refine E.m (h2.aload_n 3 dL_law_892 rfl) ?_
      refine E.m (h2.aload_n 1 dL_law_893 rfl) ?_
      refine E.m (h2.iload 5 dL_law_894 rfl) ?_
      refine E.m (h2.iconst (v := (1 : Int32)) dL_law_896 (by decide)) ?_
      refine E.m (h2.iadd dL_law_897) ?_
      refine E.gi (fun hi k => HS2.sld hi dL_law_898 k) ?_
      refine E.m (h2.aload_n 1 dL_law_899 rfl) ?_
      refine E.m (h2.iload 5 dL_law_900 rfl) ?_
      refine E.m (h2.iconst (v := (2 : Int32)) dL_law_902 (by decide)) ?_
      refine E.m (h2.iadd dL_law_903) ?_
      refine E.gi (fun hi k => HS2.sld hi dL_law_904 k) ?_
      refine E.bnd (fun u79 M80 => w1 M80 908 [(5, .int u77), (0, .ref b), (1, .ref x), (2, .ref m), (3, .ref o), (4, .int i)] [.int u79]) (fun u79 M80 hf k => h2.callV (As := [.int (xs (i + (1 : Int32)).toNatClampNeg), .int (xs (i + (2 : Int32)).toNatClampNeg)]) (rest := []) (c_X11_turn hW h1 hf) lm_X11_turn lv_m_X11_turn ll_RL_132 h1 lc_11 rfl rfl (Nat.le_of_ble_eq_true rfl) (by decide) dL_law_905 rfl k) (fun u79 M80 => ?_)
      refine E.m (h2.istore dL_law_908 (by decide) rfl) ?_
      refine E.m (h2.aload_n 4 dL_law_910 rfl) ?_
      refine E.bnd (fun u81 M82 => w1 M82 914 [(6, .int u79), (5, .int u77), (0, .ref b), (1, .ref x), (2, .ref m), (3, .ref o), (4, .int i)] [.int u81]) (fun u81 M82 hf k => h2.callV (As := []) (rest := []) (c_X11_thrown hW h1 hf) lm_X11_thrown lv_m_X11_thrown ll_RL_85 h1 lc_11 rfl rfl (Nat.le_of_ble_eq_true rfl) (by decide) dL_law_911 rfl k) (fun u81 M82 => ?_)
      refine E.m (h2.iload 1 dL_law_914 rfl) ?_
      refine E.br (fun k1 k2 => h2.icmp_eq (tgt := 921) dL_law_916 (by decide) k1 k2) ?_ ?_
      · refine E.m (h2.iload 1 dL_law_921 rfl) ?_
        refine E.join0 (fun _ => w1 M82 938 [(0, .ref b), (1, .ref x), (2, .ref m), (3, .ref o), (4, .int i), (5, .int u77), (6, .int u79)] []) (fun _ => ?_) (fun J938 hJ938 => ?_)
        · refine E.m (h2.goto (tgt := 1559) dL_law_938 (by decide)) ?_
          refine E.m (h2.sub [0, 1, 2, 3, 4] rfl) ?_
          exact (hJ1559 _)
        refine E.br (fun k1 k2 => h2.if_ne (tgt := 938) dL_law_923 (by decide) k2 k1) ?_ ?_
        · refine E.m (h2.aload_n 5 dL_law_926 rfl) ?_
          refine E.m (h2.iconst (v := (0 : Int32)) dL_law_927 (by decide)) ?_
          refine E.m (h2.lald ho (by decide) dL_law_928) ?_
          refine E.m (h2.iload 0 dL_law_929 rfl) ?_
          refine E.m (h2.i2l dL_law_931) ?_
          refine E.m (h2.lcmp dL_law_932) ?_
          refine E.br (fun k1 k2 => h2.if_eq (tgt := 938) dL_law_933 (by decide) k1 k2) ?_ ?_
          · refine E.m (h2.sub [2, 3, 4, 5, 6, 1, 0] rfl) ?_
            exact (hJ938 ())
          · refine E.m (h2.iconst (v := (0 : Int32)) dL_law_936 (by decide)) ?_
            exact E.some (fun q => q _ _ dL_law_937)
        · refine E.m (h2.sub [2, 3, 4, 5, 6, 1, 0] rfl) ?_
          exact (hJ938 ())
      · refine E.m (h2.iconst (v := (0 : Int32)) dL_law_919 (by decide)) ?_
        exact E.some (fun q => q _ _ dL_law_920)
    refine E.sw (fun hc k => h.tabIn (tgt := 941) dL_law_40 (by rw [hc]; decide) (by rw [hc]; decide) (by rw [hc]; rfl) (by decide) k) ?_ (fun _ => ?_)
    · refine E.m (h.aload_n 1 dL_law_941 rfl) ?_
      refine E.bnd (fun u83 M84 => w M84 945 [(0, .ref b), (1, .ref x), (2, .ref m), (3, .ref o), (4, .int i)] [.int u83]) (fun u83 M84 hf k => h.callV (As := []) (rest := []) (c_X10_undo hW h0 hf) lm_X10_undo lv_m_X10_undo ll_RL_133 h0 lc_10 rfl rfl (Nat.le_of_ble_eq_true rfl) (by decide) dL_law_942 rfl k) (fun u83 M84 => ?_)
      refine E.m (h.aload_n 2 dL_law_945 rfl) ?_
      refine E.bnd (fun u85 M86 => w M86 949 [(0, .ref b), (1, .ref x), (2, .ref m), (3, .ref o), (4, .int i)] [.int u85, .int u83]) (fun u85 M86 hf k => h.callV (As := []) (rest := [.int u83]) (c_X11_undo hW h1 hf) lm_X11_undo lv_m_X11_undo ll_RL_136 h1 lc_11 rfl rfl (Nat.le_of_ble_eq_true rfl) (by decide) dL_law_946 rfl k) (fun u85 M86 => ?_)
      refine E.br (fun k1 k2 => h.icmp_eq (tgt := 1559) dL_law_949 (by decide) k1 k2) ?_ ?_
      · exact E.m (fun k => h3.wid k) (hJ1559 _)
      · refine E.m (h.iconst (v := (0 : Int32)) dL_law_952 (by decide)) ?_
        exact E.some (fun q => h3.wid (q _ _ dL_law_953))
    refine E.sw (fun hc k => h.tabIn (tgt := 954) dL_law_40 (by rw [hc]; decide) (by rw [hc]; decide) (by rw [hc]; rfl) (by decide) k) ?_ (fun _ => ?_)
    · refine E.m (h.aload_n 1 dL_law_954 rfl) ?_
      refine E.m (h.aload_n 0 dL_law_955 rfl) ?_
      refine E.m (h.iload 4 dL_law_956 rfl) ?_
      refine E.m (h.iconst (v := (1 : Int32)) dL_law_958 (by decide)) ?_
      refine E.m (h.iadd dL_law_959) ?_
      refine E.gi (fun hi k => HS.sld hi dL_law_960 k) ?_
      refine E.m (h.aload_n 0 dL_law_961 rfl) ?_
      refine E.m (h.iload 4 dL_law_962 rfl) ?_
      refine E.m (h.iconst (v := (2 : Int32)) dL_law_964 (by decide)) ?_
      refine E.m (h.iadd dL_law_965) ?_
      refine E.gi (fun hi k => HS.sld hi dL_law_966 k) ?_
      refine E.m (h.aload_n 3 dL_law_967 rfl) ?_
      refine E.bnd (fun u87 M88 => w1 M88 971 [(0, .ref b), (1, .ref x), (2, .ref m), (3, .ref o), (4, .int i)] [.int u87]) (fun u87 M88 hf k => h3.callW (As := [.ref x, .int (xs (i + (1 : Int32)).toNatClampNeg), .int (xs (i + (2 : Int32)).toNatClampNeg), .ref o]) (rest := []) (c_L_then hfl hW h0 ho hf) lw_L_then ll_RL_137 rfl rfl (Nat.le_of_ble_eq_true rfl) (by decide) dL_law_968 k) (fun u87 M88 => ?_)
      refine E.m (h2.istore dL_law_971 (by decide) rfl) ?_
      refine E.m (h2.aload_n 3 dL_law_973 rfl) ?_
      refine E.m (h2.aload_n 1 dL_law_974 rfl) ?_
      refine E.m (h2.iload 5 dL_law_975 rfl) ?_
      refine E.m (h2.iconst (v := (1 : Int32)) dL_law_977 (by decide)) ?_
      refine E.m (h2.iadd dL_law_978) ?_
      refine E.gi (fun hi k => HS2.sld hi dL_law_979 k) ?_
      refine E.m (h2.aload_n 1 dL_law_980 rfl) ?_
      refine E.m (h2.iload 5 dL_law_981 rfl) ?_
      refine E.m (h2.iconst (v := (2 : Int32)) dL_law_983 (by decide)) ?_
      refine E.m (h2.iadd dL_law_984) ?_
      refine E.gi (fun hi k => HS2.sld hi dL_law_985 k) ?_
      refine E.bnd (fun u89 M90 => w1 M90 989 [(5, .int u87), (0, .ref b), (1, .ref x), (2, .ref m), (3, .ref o), (4, .int i)] [.int u89]) (fun u89 M90 hf k => h2.callV (As := [.int (xs (i + (1 : Int32)).toNatClampNeg), .int (xs (i + (2 : Int32)).toNatClampNeg)]) (rest := []) (c_X11_then hW h1 hf) lm_X11_then lv_m_X11_then ll_RL_139 h1 lc_11 rfl rfl (Nat.le_of_ble_eq_true rfl) (by decide) dL_law_986 rfl k) (fun u89 M90 => ?_)
      refine E.m (h2.istore dL_law_989 (by decide) rfl) ?_
      refine E.m (h2.aload_n 4 dL_law_991 rfl) ?_
      refine E.bnd (fun u91 M92 => w1 M92 995 [(6, .int u89), (5, .int u87), (0, .ref b), (1, .ref x), (2, .ref m), (3, .ref o), (4, .int i)] [.int u91]) (fun u91 M92 hf k => h2.callV (As := []) (rest := []) (c_X11_thrown hW h1 hf) lm_X11_thrown lv_m_X11_thrown ll_RL_85 h1 lc_11 rfl rfl (Nat.le_of_ble_eq_true rfl) (by decide) dL_law_992 rfl k) (fun u91 M92 => ?_)
      refine E.m (h2.iload 1 dL_law_995 rfl) ?_
      refine E.br (fun k1 k2 => h2.icmp_eq (tgt := 1002) dL_law_997 (by decide) k1 k2) ?_ ?_
      · refine E.m (h2.iload 1 dL_law_1002 rfl) ?_
        refine E.join0 (fun _ => w1 M92 1019 [(0, .ref b), (1, .ref x), (2, .ref m), (3, .ref o), (4, .int i), (5, .int u87), (6, .int u89)] []) (fun _ => ?_) (fun J1019 hJ1019 => ?_)
        · refine E.m (h2.goto (tgt := 1559) dL_law_1019 (by decide)) ?_
          refine E.m (h2.sub [0, 1, 2, 3, 4] rfl) ?_
          exact (hJ1559 _)
        refine E.br (fun k1 k2 => h2.if_ne (tgt := 1019) dL_law_1004 (by decide) k2 k1) ?_ ?_
        · refine E.m (h2.aload_n 5 dL_law_1007 rfl) ?_
          refine E.m (h2.iconst (v := (0 : Int32)) dL_law_1008 (by decide)) ?_
          refine E.m (h2.lald ho (by decide) dL_law_1009) ?_
          refine E.m (h2.iload 0 dL_law_1010 rfl) ?_
          refine E.m (h2.i2l dL_law_1012) ?_
          refine E.m (h2.lcmp dL_law_1013) ?_
          refine E.br (fun k1 k2 => h2.if_eq (tgt := 1019) dL_law_1014 (by decide) k1 k2) ?_ ?_
          · refine E.m (h2.sub [2, 3, 4, 5, 6, 1, 0] rfl) ?_
            exact (hJ1019 ())
          · refine E.m (h2.iconst (v := (0 : Int32)) dL_law_1017 (by decide)) ?_
            exact E.some (fun q => q _ _ dL_law_1018)
        · refine E.m (h2.sub [2, 3, 4, 5, 6, 1, 0] rfl) ?_
          exact (hJ1019 ())
      · refine E.m (h2.iconst (v := (0 : Int32)) dL_law_1000 (by decide)) ?_
        exact E.some (fun q => q _ _ dL_law_1001)
    refine E.sw (fun hc k => h.tabIn (tgt := 1022) dL_law_40 (by rw [hc]; decide) (by rw [hc]; decide) (by rw [hc]; rfl) (by decide) k) ?_ (fun _ => ?_)
    · refine E.m (h.aload_n 1 dL_law_1022 rfl) ?_
      refine E.m (h.aload_n 0 dL_law_1023 rfl) ?_
      refine E.m (h.iload 4 dL_law_1024 rfl) ?_
      refine E.m (h.iconst (v := (1 : Int32)) dL_law_1026 (by decide)) ?_
      refine E.m (h.iadd dL_law_1027) ?_
      refine E.gi (fun hi k => HS.sld hi dL_law_1028 k) ?_
      refine E.m (h.aload_n 3 dL_law_1029 rfl) ?_
      refine E.bnd (fun u93 M94 => w1 M94 1033 [(0, .ref b), (1, .ref x), (2, .ref m), (3, .ref o), (4, .int i)] [.int u93]) (fun u93 M94 hf k => h3.callW (As := [.ref x, .int (xs (i + (1 : Int32)).toNatClampNeg), .ref o]) (rest := []) (c_L_when hfl hW h0 ho hf) lw_L_when ll_RL_140 rfl rfl (Nat.le_of_ble_eq_true rfl) (by decide) dL_law_1030 k) (fun u93 M94 => ?_)
      refine E.m (h2.istore dL_law_1033 (by decide) rfl) ?_
      refine E.m (h2.aload_n 3 dL_law_1035 rfl) ?_
      refine E.m (h2.aload_n 1 dL_law_1036 rfl) ?_
      refine E.m (h2.iload 5 dL_law_1037 rfl) ?_
      refine E.m (h2.iconst (v := (1 : Int32)) dL_law_1039 (by decide)) ?_
      refine E.m (h2.iadd dL_law_1040) ?_
      refine E.gi (fun hi k => HS2.sld hi dL_law_1041 k) ?_
      refine E.bnd (fun u95 M96 => w1 M96 1045 [(5, .int u93), (0, .ref b), (1, .ref x), (2, .ref m), (3, .ref o), (4, .int i)] [.int u95]) (fun u95 M96 hf k => h2.callV (As := [.int (xs (i + (1 : Int32)).toNatClampNeg)]) (rest := []) (c_X11_when hW h1 hf) lm_X11_when lv_m_X11_when ll_RL_142 h1 lc_11 rfl rfl (Nat.le_of_ble_eq_true rfl) (by decide) dL_law_1042 rfl k) (fun u95 M96 => ?_)
      refine E.m (h2.istore dL_law_1045 (by decide) rfl) ?_
      refine E.m (h2.aload_n 4 dL_law_1047 rfl) ?_
      refine E.bnd (fun u97 M98 => w1 M98 1051 [(6, .int u95), (5, .int u93), (0, .ref b), (1, .ref x), (2, .ref m), (3, .ref o), (4, .int i)] [.int u97]) (fun u97 M98 hf k => h2.callV (As := []) (rest := []) (c_X11_thrown hW h1 hf) lm_X11_thrown lv_m_X11_thrown ll_RL_85 h1 lc_11 rfl rfl (Nat.le_of_ble_eq_true rfl) (by decide) dL_law_1048 rfl k) (fun u97 M98 => ?_)
      refine E.m (h2.iload 1 dL_law_1051 rfl) ?_
      refine E.br (fun k1 k2 => h2.icmp_eq (tgt := 1058) dL_law_1053 (by decide) k1 k2) ?_ ?_
      · refine E.m (h2.iload 1 dL_law_1058 rfl) ?_
        refine E.join0 (fun _ => w1 M98 1075 [(0, .ref b), (1, .ref x), (2, .ref m), (3, .ref o), (4, .int i), (5, .int u93), (6, .int u95)] []) (fun _ => ?_) (fun J1075 hJ1075 => ?_)
        · refine E.m (h2.goto (tgt := 1559) dL_law_1075 (by decide)) ?_
          refine E.m (h2.sub [0, 1, 2, 3, 4] rfl) ?_
          exact (hJ1559 _)
        refine E.br (fun k1 k2 => h2.if_ne (tgt := 1075) dL_law_1060 (by decide) k2 k1) ?_ ?_
        · refine E.m (h2.aload_n 5 dL_law_1063 rfl) ?_
          refine E.m (h2.iconst (v := (0 : Int32)) dL_law_1064 (by decide)) ?_
          refine E.m (h2.lald ho (by decide) dL_law_1065) ?_
          refine E.m (h2.iload 0 dL_law_1066 rfl) ?_
          refine E.m (h2.i2l dL_law_1068) ?_
          refine E.m (h2.lcmp dL_law_1069) ?_
          refine E.br (fun k1 k2 => h2.if_eq (tgt := 1075) dL_law_1070 (by decide) k1 k2) ?_ ?_
          · refine E.m (h2.sub [2, 3, 4, 5, 6, 1, 0] rfl) ?_
            exact (hJ1075 ())
          · refine E.m (h2.iconst (v := (0 : Int32)) dL_law_1073 (by decide)) ?_
            exact E.some (fun q => q _ _ dL_law_1074)
        · refine E.m (h2.sub [2, 3, 4, 5, 6, 1, 0] rfl) ?_
          exact (hJ1075 ())
      · refine E.m (h2.iconst (v := (0 : Int32)) dL_law_1056 (by decide)) ?_
        exact E.some (fun q => q _ _ dL_law_1057)
    refine E.sw (fun hc k => h.tabIn (tgt := 1078) dL_law_40 (by rw [hc]; decide) (by rw [hc]; decide) (by rw [hc]; rfl) (by decide) k) ?_ (fun _ => ?_)
    · refine E.m (h.aload_n 1 dL_law_1078 rfl) ?_
      refine E.bnd (fun u99 M100 => w M100 1082 [(0, .ref b), (1, .ref x), (2, .ref m), (3, .ref o), (4, .int i)] [.int u99]) (fun u99 M100 hf k => h.callV (As := []) (rest := []) (c_X10_settles hW h0 hf) lm_X10_settles lv_m_X10_settles ll_RL_143 h0 lc_10 rfl rfl (Nat.le_of_ble_eq_true rfl) (by decide) dL_law_1079 rfl k) (fun u99 M100 => ?_)
      refine E.m (h.aload_n 2 dL_law_1082 rfl) ?_
      refine E.bnd (fun u101 M102 => w M102 1086 [(0, .ref b), (1, .ref x), (2, .ref m), (3, .ref o), (4, .int i)] [.int u101, .int u99]) (fun u101 M102 hf k => h.callV (As := []) (rest := [.int u99]) (c_X11_settles hW h1 hf) lm_X11_settles lv_m_X11_settles ll_RL_146 h1 lc_11 rfl rfl (Nat.le_of_ble_eq_true rfl) (by decide) dL_law_1083 rfl k) (fun u101 M102 => ?_)
      refine E.br (fun k1 k2 => h.icmp_eq (tgt := 1559) dL_law_1086 (by decide) k1 k2) ?_ ?_
      · exact E.m (fun k => h3.wid k) (hJ1559 _)
      · refine E.m (h.iconst (v := (0 : Int32)) dL_law_1089 (by decide)) ?_
        exact E.some (fun q => h3.wid (q _ _ dL_law_1090))
    refine E.sw (fun hc k => h.tabIn (tgt := 1091) dL_law_40 (by rw [hc]; decide) (by rw [hc]; decide) (by rw [hc]; rfl) (by decide) k) ?_ (fun _ => ?_)
    · refine E.m (h.aload_n 1 dL_law_1091 rfl) ?_
      refine E.m (h.aload_n 0 dL_law_1092 rfl) ?_
      refine E.m (h.iload 4 dL_law_1093 rfl) ?_
      refine E.m (h.iconst (v := (1 : Int32)) dL_law_1095 (by decide)) ?_
      refine E.m (h.iadd dL_law_1096) ?_
      refine E.gi (fun hi k => HS.sld hi dL_law_1097 k) ?_
      refine E.m (h.aload_n 0 dL_law_1098 rfl) ?_
      refine E.m (h.iload 4 dL_law_1099 rfl) ?_
      refine E.m (h.iconst (v := (2 : Int32)) dL_law_1101 (by decide)) ?_
      refine E.m (h.iadd dL_law_1102) ?_
      refine E.gi (fun hi k => HS.sld hi dL_law_1103 k) ?_
      refine E.m (h.aload_n 3 dL_law_1104 rfl) ?_
      refine E.bnd (fun u103 M104 => w1 M104 1108 [(0, .ref b), (1, .ref x), (2, .ref m), (3, .ref o), (4, .int i)] [.int u103]) (fun u103 M104 hf k => h3.callW (As := [.ref x, .int (xs (i + (1 : Int32)).toNatClampNeg), .int (xs (i + (2 : Int32)).toNatClampNeg), .ref o]) (rest := []) (c_L_toAim hfl hW h0 ho hf) lw_L_toAim ll_RL_147 rfl rfl (Nat.le_of_ble_eq_true rfl) (by decide) dL_law_1105 k) (fun u103 M104 => ?_)
      refine E.m (h2.istore dL_law_1108 (by decide) rfl) ?_
      refine E.m (h2.aload_n 3 dL_law_1110 rfl) ?_
      refine E.m (h2.aload_n 1 dL_law_1111 rfl) ?_
      refine E.m (h2.iload 5 dL_law_1112 rfl) ?_
      refine E.m (h2.iconst (v := (1 : Int32)) dL_law_1114 (by decide)) ?_
      refine E.m (h2.iadd dL_law_1115) ?_
      refine E.gi (fun hi k => HS2.sld hi dL_law_1116 k) ?_
      refine E.m (h2.aload_n 1 dL_law_1117 rfl) ?_
      refine E.m (h2.iload 5 dL_law_1118 rfl) ?_
      refine E.m (h2.iconst (v := (2 : Int32)) dL_law_1120 (by decide)) ?_
      refine E.m (h2.iadd dL_law_1121) ?_
      refine E.gi (fun hi k => HS2.sld hi dL_law_1122 k) ?_
      refine E.bnd (fun u105 M106 => w1 M106 1126 [(5, .int u103), (0, .ref b), (1, .ref x), (2, .ref m), (3, .ref o), (4, .int i)] [.int u105]) (fun u105 M106 hf k => h2.callV (As := [.int (xs (i + (1 : Int32)).toNatClampNeg), .int (xs (i + (2 : Int32)).toNatClampNeg)]) (rest := []) (c_X11_toAim hW h1 hf) lm_X11_toAim lv_m_X11_toAim ll_RL_149 h1 lc_11 rfl rfl (Nat.le_of_ble_eq_true rfl) (by decide) dL_law_1123 rfl k) (fun u105 M106 => ?_)
      refine E.m (h2.istore dL_law_1126 (by decide) rfl) ?_
      refine E.m (h2.aload_n 4 dL_law_1128 rfl) ?_
      refine E.bnd (fun u107 M108 => w1 M108 1132 [(6, .int u105), (5, .int u103), (0, .ref b), (1, .ref x), (2, .ref m), (3, .ref o), (4, .int i)] [.int u107]) (fun u107 M108 hf k => h2.callV (As := []) (rest := []) (c_X11_thrown hW h1 hf) lm_X11_thrown lv_m_X11_thrown ll_RL_85 h1 lc_11 rfl rfl (Nat.le_of_ble_eq_true rfl) (by decide) dL_law_1129 rfl k) (fun u107 M108 => ?_)
      refine E.m (h2.iload 1 dL_law_1132 rfl) ?_
      refine E.br (fun k1 k2 => h2.icmp_eq (tgt := 1139) dL_law_1134 (by decide) k1 k2) ?_ ?_
      · refine E.m (h2.iload 1 dL_law_1139 rfl) ?_
        refine E.join0 (fun _ => w1 M108 1156 [(0, .ref b), (1, .ref x), (2, .ref m), (3, .ref o), (4, .int i), (5, .int u103), (6, .int u105)] []) (fun _ => ?_) (fun J1156 hJ1156 => ?_)
        · refine E.m (h2.goto (tgt := 1559) dL_law_1156 (by decide)) ?_
          refine E.m (h2.sub [0, 1, 2, 3, 4] rfl) ?_
          exact (hJ1559 _)
        refine E.br (fun k1 k2 => h2.if_ne (tgt := 1156) dL_law_1141 (by decide) k2 k1) ?_ ?_
        · refine E.m (h2.aload_n 5 dL_law_1144 rfl) ?_
          refine E.m (h2.iconst (v := (0 : Int32)) dL_law_1145 (by decide)) ?_
          refine E.m (h2.lald ho (by decide) dL_law_1146) ?_
          refine E.m (h2.iload 0 dL_law_1147 rfl) ?_
          refine E.m (h2.i2l dL_law_1149) ?_
          refine E.m (h2.lcmp dL_law_1150) ?_
          refine E.br (fun k1 k2 => h2.if_eq (tgt := 1156) dL_law_1151 (by decide) k1 k2) ?_ ?_
          · refine E.m (h2.sub [2, 3, 4, 5, 6, 1, 0] rfl) ?_
            exact (hJ1156 ())
          · refine E.m (h2.iconst (v := (0 : Int32)) dL_law_1154 (by decide)) ?_
            exact E.some (fun q => q _ _ dL_law_1155)
        · refine E.m (h2.sub [2, 3, 4, 5, 6, 1, 0] rfl) ?_
          exact (hJ1156 ())
      · refine E.m (h2.iconst (v := (0 : Int32)) dL_law_1137 (by decide)) ?_
        exact E.some (fun q => q _ _ dL_law_1138)
    refine E.sw (fun hc k => h.tabIn (tgt := 1159) dL_law_40 (by rw [hc]; decide) (by rw [hc]; decide) (by rw [hc]; rfl) (by decide) k) ?_ (fun _ => ?_)
    · refine E.m (h.aload_n 1 dL_law_1159 rfl) ?_
      refine E.m (h.aload_n 0 dL_law_1160 rfl) ?_
      refine E.m (h.iload 4 dL_law_1161 rfl) ?_
      refine E.m (h.iconst (v := (1 : Int32)) dL_law_1163 (by decide)) ?_
      refine E.m (h.iadd dL_law_1164) ?_
      refine E.gi (fun hi k => HS.sld hi dL_law_1165 k) ?_
      refine E.m (h.aload_n 0 dL_law_1166 rfl) ?_
      refine E.m (h.iload 4 dL_law_1167 rfl) ?_
      refine E.m (h.iconst (v := (2 : Int32)) dL_law_1169 (by decide)) ?_
      refine E.m (h.iadd dL_law_1170) ?_
      refine E.gi (fun hi k => HS.sld hi dL_law_1171 k) ?_
      refine E.m (h.aload_n 3 dL_law_1172 rfl) ?_
      refine E.bnd (fun u109 M110 => w1 M110 1176 [(0, .ref b), (1, .ref x), (2, .ref m), (3, .ref o), (4, .int i)] [.int u109]) (fun u109 M110 hf k => h3.callW (As := [.ref x, .int (xs (i + (1 : Int32)).toNatClampNeg), .int (xs (i + (2 : Int32)).toNatClampNeg), .ref o]) (rest := []) (c_L_toGain hfl hW h0 ho hf) lw_L_toGain ll_RL_150 rfl rfl (Nat.le_of_ble_eq_true rfl) (by decide) dL_law_1173 k) (fun u109 M110 => ?_)
      refine E.m (h2.istore dL_law_1176 (by decide) rfl) ?_
      refine E.m (h2.aload_n 3 dL_law_1178 rfl) ?_
      refine E.m (h2.aload_n 1 dL_law_1179 rfl) ?_
      refine E.m (h2.iload 5 dL_law_1180 rfl) ?_
      refine E.m (h2.iconst (v := (1 : Int32)) dL_law_1182 (by decide)) ?_
      refine E.m (h2.iadd dL_law_1183) ?_
      refine E.gi (fun hi k => HS2.sld hi dL_law_1184 k) ?_
      refine E.m (h2.aload_n 1 dL_law_1185 rfl) ?_
      refine E.m (h2.iload 5 dL_law_1186 rfl) ?_
      refine E.m (h2.iconst (v := (2 : Int32)) dL_law_1188 (by decide)) ?_
      refine E.m (h2.iadd dL_law_1189) ?_
      refine E.gi (fun hi k => HS2.sld hi dL_law_1190 k) ?_
      refine E.bnd (fun u111 M112 => w1 M112 1194 [(5, .int u109), (0, .ref b), (1, .ref x), (2, .ref m), (3, .ref o), (4, .int i)] [.int u111]) (fun u111 M112 hf k => h2.callV (As := [.int (xs (i + (1 : Int32)).toNatClampNeg), .int (xs (i + (2 : Int32)).toNatClampNeg)]) (rest := []) (c_X11_toGain hW h1 hf) lm_X11_toGain lv_m_X11_toGain ll_RL_152 h1 lc_11 rfl rfl (Nat.le_of_ble_eq_true rfl) (by decide) dL_law_1191 rfl k) (fun u111 M112 => ?_)
      refine E.m (h2.istore dL_law_1194 (by decide) rfl) ?_
      refine E.m (h2.aload_n 4 dL_law_1196 rfl) ?_
      refine E.bnd (fun u113 M114 => w1 M114 1200 [(6, .int u111), (5, .int u109), (0, .ref b), (1, .ref x), (2, .ref m), (3, .ref o), (4, .int i)] [.int u113]) (fun u113 M114 hf k => h2.callV (As := []) (rest := []) (c_X11_thrown hW h1 hf) lm_X11_thrown lv_m_X11_thrown ll_RL_85 h1 lc_11 rfl rfl (Nat.le_of_ble_eq_true rfl) (by decide) dL_law_1197 rfl k) (fun u113 M114 => ?_)
      refine E.m (h2.iload 1 dL_law_1200 rfl) ?_
      refine E.br (fun k1 k2 => h2.icmp_eq (tgt := 1207) dL_law_1202 (by decide) k1 k2) ?_ ?_
      · refine E.m (h2.iload 1 dL_law_1207 rfl) ?_
        refine E.join0 (fun _ => w1 M114 1224 [(0, .ref b), (1, .ref x), (2, .ref m), (3, .ref o), (4, .int i), (5, .int u109), (6, .int u111)] []) (fun _ => ?_) (fun J1224 hJ1224 => ?_)
        · refine E.m (h2.goto (tgt := 1559) dL_law_1224 (by decide)) ?_
          refine E.m (h2.sub [0, 1, 2, 3, 4] rfl) ?_
          exact (hJ1559 _)
        refine E.br (fun k1 k2 => h2.if_ne (tgt := 1224) dL_law_1209 (by decide) k2 k1) ?_ ?_
        · refine E.m (h2.aload_n 5 dL_law_1212 rfl) ?_
          refine E.m (h2.iconst (v := (0 : Int32)) dL_law_1213 (by decide)) ?_
          refine E.m (h2.lald ho (by decide) dL_law_1214) ?_
          refine E.m (h2.iload 0 dL_law_1215 rfl) ?_
          refine E.m (h2.i2l dL_law_1217) ?_
          refine E.m (h2.lcmp dL_law_1218) ?_
          refine E.br (fun k1 k2 => h2.if_eq (tgt := 1224) dL_law_1219 (by decide) k1 k2) ?_ ?_
          · refine E.m (h2.sub [2, 3, 4, 5, 6, 1, 0] rfl) ?_
            exact (hJ1224 ())
          · refine E.m (h2.iconst (v := (0 : Int32)) dL_law_1222 (by decide)) ?_
            exact E.some (fun q => q _ _ dL_law_1223)
        · refine E.m (h2.sub [2, 3, 4, 5, 6, 1, 0] rfl) ?_
          exact (hJ1224 ())
      · refine E.m (h2.iconst (v := (0 : Int32)) dL_law_1205 (by decide)) ?_
        exact E.some (fun q => q _ _ dL_law_1206)
    refine E.sw (fun hc k => h.tabIn (tgt := 1227) dL_law_40 (by rw [hc]; decide) (by rw [hc]; decide) (by rw [hc]; rfl) (by decide) k) ?_ (fun _ => ?_)
    · refine E.m (h.aload_n 1 dL_law_1227 rfl) ?_
      refine E.m (h.aload_n 0 dL_law_1228 rfl) ?_
      refine E.m (h.iload 4 dL_law_1229 rfl) ?_
      refine E.m (h.iconst (v := (1 : Int32)) dL_law_1231 (by decide)) ?_
      refine E.m (h.iadd dL_law_1232) ?_
      refine E.gi (fun hi k => HS.sld hi dL_law_1233 k) ?_
      refine E.m (h.aload_n 0 dL_law_1234 rfl) ?_
      refine E.m (h.iload 4 dL_law_1235 rfl) ?_
      refine E.m (h.iconst (v := (2 : Int32)) dL_law_1237 (by decide)) ?_
      refine E.m (h.iadd dL_law_1238) ?_
      refine E.gi (fun hi k => HS.sld hi dL_law_1239 k) ?_
      refine E.bnd (fun u115 M116 => w M116 1243 [(0, .ref b), (1, .ref x), (2, .ref m), (3, .ref o), (4, .int i)] [.int u115]) (fun u115 M116 hf k => h.callV (As := [.int (xs (i + (1 : Int32)).toNatClampNeg), .int (xs (i + (2 : Int32)).toNatClampNeg)]) (rest := []) (c_X10_note hW h0 hf) lm_X10_note lv_m_X10_note ll_RL_153 h0 lc_10 rfl rfl (Nat.le_of_ble_eq_true rfl) (by decide) dL_law_1240 rfl k) (fun u115 M116 => ?_)
      refine E.m (h.aload_n 2 dL_law_1243 rfl) ?_
      refine E.m (h.aload_n 0 dL_law_1244 rfl) ?_
      refine E.m (h.iload 4 dL_law_1245 rfl) ?_
      refine E.m (h.iconst (v := (1 : Int32)) dL_law_1247 (by decide)) ?_
      refine E.m (h.iadd dL_law_1248) ?_
      refine E.gi (fun hi k => HS.sld hi dL_law_1249 k) ?_
      refine E.m (h.aload_n 0 dL_law_1250 rfl) ?_
      refine E.m (h.iload 4 dL_law_1251 rfl) ?_
      refine E.m (h.iconst (v := (2 : Int32)) dL_law_1253 (by decide)) ?_
      refine E.m (h.iadd dL_law_1254) ?_
      refine E.gi (fun hi k => HS.sld hi dL_law_1255 k) ?_
      refine E.bnd (fun u117 M118 => w M118 1259 [(0, .ref b), (1, .ref x), (2, .ref m), (3, .ref o), (4, .int i)] [.int u117, .int u115]) (fun u117 M118 hf k => h.callV (As := [.int (xs (i + (1 : Int32)).toNatClampNeg), .int (xs (i + (2 : Int32)).toNatClampNeg)]) (rest := [.int u115]) (c_X11_note hW h1 hf) lm_X11_note lv_m_X11_note ll_RL_156 h1 lc_11 rfl rfl (Nat.le_of_ble_eq_true rfl) (by decide) dL_law_1256 rfl k) (fun u117 M118 => ?_)
      refine E.br (fun k1 k2 => h.icmp_eq (tgt := 1559) dL_law_1259 (by decide) k1 k2) ?_ ?_
      · exact E.m (fun k => h3.wid k) (hJ1559 _)
      · refine E.m (h.iconst (v := (0 : Int32)) dL_law_1262 (by decide)) ?_
        exact E.some (fun q => h3.wid (q _ _ dL_law_1263))
    refine E.sw (fun hc k => h.tabIn (tgt := 1264) dL_law_40 (by rw [hc]; decide) (by rw [hc]; decide) (by rw [hc]; rfl) (by decide) k) ?_ (fun _ => ?_)
    · refine E.m (h.aload_n 1 dL_law_1264 rfl) ?_
      refine E.m (h.aload_n 0 dL_law_1265 rfl) ?_
      refine E.m (h.iload 4 dL_law_1266 rfl) ?_
      refine E.m (h.iconst (v := (1 : Int32)) dL_law_1268 (by decide)) ?_
      refine E.m (h.iadd dL_law_1269) ?_
      refine E.gi (fun hi k => HS.sld hi dL_law_1270 k) ?_
      refine E.m (h.aload_n 3 dL_law_1271 rfl) ?_
      refine E.bnd (fun u119 M120 => w1 M120 1275 [(0, .ref b), (1, .ref x), (2, .ref m), (3, .ref o), (4, .int i)] [.int u119]) (fun u119 M120 hf k => h3.callW (As := [.ref x, .int (xs (i + (1 : Int32)).toNatClampNeg), .ref o]) (rest := []) (c_L_other hfl hW h0 ho hf) lw_L_other ll_RL_157 rfl rfl (Nat.le_of_ble_eq_true rfl) (by decide) dL_law_1272 k) (fun u119 M120 => ?_)
      refine E.m (h2.istore dL_law_1275 (by decide) rfl) ?_
      refine E.m (h2.aload_n 3 dL_law_1277 rfl) ?_
      refine E.m (h2.aload_n 1 dL_law_1278 rfl) ?_
      refine E.m (h2.iload 5 dL_law_1279 rfl) ?_
      refine E.m (h2.iconst (v := (1 : Int32)) dL_law_1281 (by decide)) ?_
      refine E.m (h2.iadd dL_law_1282) ?_
      refine E.gi (fun hi k => HS2.sld hi dL_law_1283 k) ?_
      refine E.bnd (fun u121 M122 => w1 M122 1287 [(5, .int u119), (0, .ref b), (1, .ref x), (2, .ref m), (3, .ref o), (4, .int i)] [.int u121]) (fun u121 M122 hf k => h2.callV (As := [.int (xs (i + (1 : Int32)).toNatClampNeg)]) (rest := []) (c_X11_other hW h1 hf) lm_X11_other lv_m_X11_other ll_RL_159 h1 lc_11 rfl rfl (Nat.le_of_ble_eq_true rfl) (by decide) dL_law_1284 rfl k) (fun u121 M122 => ?_)
      refine E.m (h2.istore dL_law_1287 (by decide) rfl) ?_
      refine E.m (h2.aload_n 4 dL_law_1289 rfl) ?_
      refine E.bnd (fun u123 M124 => w1 M124 1293 [(6, .int u121), (5, .int u119), (0, .ref b), (1, .ref x), (2, .ref m), (3, .ref o), (4, .int i)] [.int u123]) (fun u123 M124 hf k => h2.callV (As := []) (rest := []) (c_X11_thrown hW h1 hf) lm_X11_thrown lv_m_X11_thrown ll_RL_85 h1 lc_11 rfl rfl (Nat.le_of_ble_eq_true rfl) (by decide) dL_law_1290 rfl k) (fun u123 M124 => ?_)
      refine E.m (h2.iload 1 dL_law_1293 rfl) ?_
      refine E.br (fun k1 k2 => h2.icmp_eq (tgt := 1300) dL_law_1295 (by decide) k1 k2) ?_ ?_
      · refine E.m (h2.iload 1 dL_law_1300 rfl) ?_
        refine E.join0 (fun _ => w1 M124 1317 [(0, .ref b), (1, .ref x), (2, .ref m), (3, .ref o), (4, .int i), (5, .int u119), (6, .int u121)] []) (fun _ => ?_) (fun J1317 hJ1317 => ?_)
        · refine E.m (h2.goto (tgt := 1559) dL_law_1317 (by decide)) ?_
          refine E.m (h2.sub [0, 1, 2, 3, 4] rfl) ?_
          exact (hJ1559 _)
        refine E.br (fun k1 k2 => h2.if_ne (tgt := 1317) dL_law_1302 (by decide) k2 k1) ?_ ?_
        · refine E.m (h2.aload_n 5 dL_law_1305 rfl) ?_
          refine E.m (h2.iconst (v := (0 : Int32)) dL_law_1306 (by decide)) ?_
          refine E.m (h2.lald ho (by decide) dL_law_1307) ?_
          refine E.m (h2.iload 0 dL_law_1308 rfl) ?_
          refine E.m (h2.i2l dL_law_1310) ?_
          refine E.m (h2.lcmp dL_law_1311) ?_
          refine E.br (fun k1 k2 => h2.if_eq (tgt := 1317) dL_law_1312 (by decide) k1 k2) ?_ ?_
          · refine E.m (h2.sub [2, 3, 4, 5, 6, 1, 0] rfl) ?_
            exact (hJ1317 ())
          · refine E.m (h2.iconst (v := (0 : Int32)) dL_law_1315 (by decide)) ?_
            exact E.some (fun q => q _ _ dL_law_1316)
        · refine E.m (h2.sub [2, 3, 4, 5, 6, 1, 0] rfl) ?_
          exact (hJ1317 ())
      · refine E.m (h2.iconst (v := (0 : Int32)) dL_law_1298 (by decide)) ?_
        exact E.some (fun q => q _ _ dL_law_1299)
    refine E.sw (fun hc k => h.tabIn (tgt := 1320) dL_law_40 (by rw [hc]; decide) (by rw [hc]; decide) (by rw [hc]; rfl) (by decide) k) ?_ (fun _ => ?_)
    · refine E.m (h.aload_n 1 dL_law_1320 rfl) ?_
      refine E.m (h.aload_n 0 dL_law_1321 rfl) ?_
      refine E.m (h.iload 4 dL_law_1322 rfl) ?_
      refine E.m (h.iconst (v := (1 : Int32)) dL_law_1324 (by decide)) ?_
      refine E.m (h.iadd dL_law_1325) ?_
      refine E.gi (fun hi k => HS.sld hi dL_law_1326 k) ?_
      refine E.m (h.aload_n 3 dL_law_1327 rfl) ?_
      refine E.bnd (fun u125 M126 => w1 M126 1331 [(0, .ref b), (1, .ref x), (2, .ref m), (3, .ref o), (4, .int i)] [.int u125]) (fun u125 M126 hf k => h3.callW (As := [.ref x, .int (xs (i + (1 : Int32)).toNatClampNeg), .ref o]) (rest := []) (c_L_look hfl hW h0 ho hf) lw_L_look ll_RL_160 rfl rfl (Nat.le_of_ble_eq_true rfl) (by decide) dL_law_1328 k) (fun u125 M126 => ?_)
      refine E.m (h2.istore dL_law_1331 (by decide) rfl) ?_
      refine E.m (h2.aload_n 3 dL_law_1333 rfl) ?_
      refine E.m (h2.aload_n 1 dL_law_1334 rfl) ?_
      refine E.m (h2.iload 5 dL_law_1335 rfl) ?_
      refine E.m (h2.iconst (v := (1 : Int32)) dL_law_1337 (by decide)) ?_
      refine E.m (h2.iadd dL_law_1338) ?_
      refine E.gi (fun hi k => HS2.sld hi dL_law_1339 k) ?_
      refine E.bnd (fun u127 M128 => w1 M128 1343 [(5, .int u125), (0, .ref b), (1, .ref x), (2, .ref m), (3, .ref o), (4, .int i)] [.int u127]) (fun u127 M128 hf k => h2.callV (As := [.int (xs (i + (1 : Int32)).toNatClampNeg)]) (rest := []) (c_X11_look hW h1 hf) lm_X11_look lv_m_X11_look ll_RL_162 h1 lc_11 rfl rfl (Nat.le_of_ble_eq_true rfl) (by decide) dL_law_1340 rfl k) (fun u127 M128 => ?_)
      refine E.m (h2.istore dL_law_1343 (by decide) rfl) ?_
      refine E.m (h2.aload_n 4 dL_law_1345 rfl) ?_
      refine E.bnd (fun u129 M130 => w1 M130 1349 [(6, .int u127), (5, .int u125), (0, .ref b), (1, .ref x), (2, .ref m), (3, .ref o), (4, .int i)] [.int u129]) (fun u129 M130 hf k => h2.callV (As := []) (rest := []) (c_X11_thrown hW h1 hf) lm_X11_thrown lv_m_X11_thrown ll_RL_85 h1 lc_11 rfl rfl (Nat.le_of_ble_eq_true rfl) (by decide) dL_law_1346 rfl k) (fun u129 M130 => ?_)
      refine E.m (h2.iload 1 dL_law_1349 rfl) ?_
      refine E.br (fun k1 k2 => h2.icmp_eq (tgt := 1356) dL_law_1351 (by decide) k1 k2) ?_ ?_
      · refine E.m (h2.iload 1 dL_law_1356 rfl) ?_
        refine E.join0 (fun _ => w1 M130 1373 [(0, .ref b), (1, .ref x), (2, .ref m), (3, .ref o), (4, .int i), (5, .int u125), (6, .int u127)] []) (fun _ => ?_) (fun J1373 hJ1373 => ?_)
        · refine E.m (h2.goto (tgt := 1559) dL_law_1373 (by decide)) ?_
          refine E.m (h2.sub [0, 1, 2, 3, 4] rfl) ?_
          exact (hJ1559 _)
        refine E.br (fun k1 k2 => h2.if_ne (tgt := 1373) dL_law_1358 (by decide) k2 k1) ?_ ?_
        · refine E.m (h2.aload_n 5 dL_law_1361 rfl) ?_
          refine E.m (h2.iconst (v := (0 : Int32)) dL_law_1362 (by decide)) ?_
          refine E.m (h2.lald ho (by decide) dL_law_1363) ?_
          refine E.m (h2.iload 0 dL_law_1364 rfl) ?_
          refine E.m (h2.i2l dL_law_1366) ?_
          refine E.m (h2.lcmp dL_law_1367) ?_
          refine E.br (fun k1 k2 => h2.if_eq (tgt := 1373) dL_law_1368 (by decide) k1 k2) ?_ ?_
          · refine E.m (h2.sub [2, 3, 4, 5, 6, 1, 0] rfl) ?_
            exact (hJ1373 ())
          · refine E.m (h2.iconst (v := (0 : Int32)) dL_law_1371 (by decide)) ?_
            exact E.some (fun q => q _ _ dL_law_1372)
        · refine E.m (h2.sub [2, 3, 4, 5, 6, 1, 0] rfl) ?_
          exact (hJ1373 ())
      · refine E.m (h2.iconst (v := (0 : Int32)) dL_law_1354 (by decide)) ?_
        exact E.some (fun q => q _ _ dL_law_1355)
    refine E.sw (fun hc k => h.tabIn (tgt := 1376) dL_law_40 (by rw [hc]; decide) (by rw [hc]; decide) (by rw [hc]; rfl) (by decide) k) ?_ (fun _ => ?_)
    · refine E.m (h.aload_n 1 dL_law_1376 rfl) ?_
      refine E.bnd (fun _ M132 => w M132 1380 [(0, .ref b), (1, .ref x), (2, .ref m), (3, .ref o), (4, .int i)] []) (fun _ M132 hf k => h.callV (As := []) (rest := []) (c_X10_forget hW h0 hf) lm_X10_forget lv_m_X10_forget ll_RL_163 h0 lc_10 rfl rfl (Nat.le_of_ble_eq_true rfl) (by decide) dL_law_1377 rfl k) (fun _ M132 => ?_)
      refine E.m (h.aload_n 2 dL_law_1380 rfl) ?_
      refine E.bnd (fun _ M134 => w M134 1384 [(0, .ref b), (1, .ref x), (2, .ref m), (3, .ref o), (4, .int i)] []) (fun _ M134 hf k => h.callV (As := []) (rest := []) (c_X11_forget hW h1 hf) lm_X11_forget lv_m_X11_forget ll_RL_166 h1 lc_11 rfl rfl (Nat.le_of_ble_eq_true rfl) (by decide) dL_law_1381 rfl k) (fun _ M134 => ?_)
      refine E.m (h.goto (tgt := 1559) dL_law_1384 (by decide)) ?_
      exact E.m (fun k => h3.wid k) (hJ1559 _)
    refine E.sw (fun hc k => h.tabIn (tgt := 1387) dL_law_40 (by rw [hc]; decide) (by rw [hc]; decide) (by rw [hc]; rfl) (by decide) k) ?_ (fun _ => ?_)
    · refine E.m (h.aload_n 1 dL_law_1387 rfl) ?_
      refine E.m (h.aload_n 0 dL_law_1388 rfl) ?_
      refine E.m (h.iload 4 dL_law_1389 rfl) ?_
      refine E.m (h.iconst (v := (1 : Int32)) dL_law_1391 (by decide)) ?_
      refine E.m (h.iadd dL_law_1392) ?_
      refine E.gi (fun hi k => HS.sld hi dL_law_1393 k) ?_
      refine E.m (h.aload_n 0 dL_law_1394 rfl) ?_
      refine E.m (h.iload 4 dL_law_1395 rfl) ?_
      refine E.m (h.iconst (v := (2 : Int32)) dL_law_1397 (by decide)) ?_
      refine E.m (h.iadd dL_law_1398) ?_
      refine E.gi (fun hi k => HS.sld hi dL_law_1399 k) ?_
      refine E.m (h.aload_n 3 dL_law_1400 rfl) ?_
      refine E.bnd (fun u135 M136 => w1 M136 1404 [(0, .ref b), (1, .ref x), (2, .ref m), (3, .ref o), (4, .int i)] [.int u135]) (fun u135 M136 hf k => h3.callW (As := [.ref x, .int (xs (i + (1 : Int32)).toNatClampNeg), .int (xs (i + (2 : Int32)).toNatClampNeg), .ref o]) (rest := []) (c_L_storms hfl hW h0 ho hf) lw_L_storms ll_RL_167 rfl rfl (Nat.le_of_ble_eq_true rfl) (by decide) dL_law_1401 k) (fun u135 M136 => ?_)
      refine E.m (h2.istore dL_law_1404 (by decide) rfl) ?_
      refine E.m (h2.aload_n 3 dL_law_1406 rfl) ?_
      refine E.m (h2.aload_n 1 dL_law_1407 rfl) ?_
      refine E.m (h2.iload 5 dL_law_1408 rfl) ?_
      refine E.m (h2.iconst (v := (1 : Int32)) dL_law_1410 (by decide)) ?_
      refine E.m (h2.iadd dL_law_1411) ?_
      refine E.gi (fun hi k => HS2.sld hi dL_law_1412 k) ?_
      refine E.m (h2.aload_n 1 dL_law_1413 rfl) ?_
      refine E.m (h2.iload 5 dL_law_1414 rfl) ?_
      refine E.m (h2.iconst (v := (2 : Int32)) dL_law_1416 (by decide)) ?_
      refine E.m (h2.iadd dL_law_1417) ?_
      refine E.gi (fun hi k => HS2.sld hi dL_law_1418 k) ?_
      refine E.bnd (fun u137 M138 => w1 M138 1422 [(5, .int u135), (0, .ref b), (1, .ref x), (2, .ref m), (3, .ref o), (4, .int i)] [.int u137]) (fun u137 M138 hf k => h2.callV (As := [.int (xs (i + (1 : Int32)).toNatClampNeg), .int (xs (i + (2 : Int32)).toNatClampNeg)]) (rest := []) (c_X11_storms hW h1 hf) lm_X11_storms lv_m_X11_storms ll_RL_169 h1 lc_11 rfl rfl (Nat.le_of_ble_eq_true rfl) (by decide) dL_law_1419 rfl k) (fun u137 M138 => ?_)
      refine E.m (h2.istore dL_law_1422 (by decide) rfl) ?_
      refine E.m (h2.aload_n 4 dL_law_1424 rfl) ?_
      refine E.bnd (fun u139 M140 => w1 M140 1428 [(6, .int u137), (5, .int u135), (0, .ref b), (1, .ref x), (2, .ref m), (3, .ref o), (4, .int i)] [.int u139]) (fun u139 M140 hf k => h2.callV (As := []) (rest := []) (c_X11_thrown hW h1 hf) lm_X11_thrown lv_m_X11_thrown ll_RL_85 h1 lc_11 rfl rfl (Nat.le_of_ble_eq_true rfl) (by decide) dL_law_1425 rfl k) (fun u139 M140 => ?_)
      refine E.m (h2.iload 1 dL_law_1428 rfl) ?_
      refine E.br (fun k1 k2 => h2.icmp_eq (tgt := 1435) dL_law_1430 (by decide) k1 k2) ?_ ?_
      · refine E.m (h2.iload 1 dL_law_1435 rfl) ?_
        refine E.join0 (fun _ => w1 M140 1452 [(0, .ref b), (1, .ref x), (2, .ref m), (3, .ref o), (4, .int i), (5, .int u135), (6, .int u137)] []) (fun _ => ?_) (fun J1452 hJ1452 => ?_)
        · refine E.m (h2.goto (tgt := 1559) dL_law_1452 (by decide)) ?_
          refine E.m (h2.sub [0, 1, 2, 3, 4] rfl) ?_
          exact (hJ1559 _)
        refine E.br (fun k1 k2 => h2.if_ne (tgt := 1452) dL_law_1437 (by decide) k2 k1) ?_ ?_
        · refine E.m (h2.aload_n 5 dL_law_1440 rfl) ?_
          refine E.m (h2.iconst (v := (0 : Int32)) dL_law_1441 (by decide)) ?_
          refine E.m (h2.lald ho (by decide) dL_law_1442) ?_
          refine E.m (h2.iload 0 dL_law_1443 rfl) ?_
          refine E.m (h2.i2l dL_law_1445) ?_
          refine E.m (h2.lcmp dL_law_1446) ?_
          refine E.br (fun k1 k2 => h2.if_eq (tgt := 1452) dL_law_1447 (by decide) k1 k2) ?_ ?_
          · refine E.m (h2.sub [2, 3, 4, 5, 6, 1, 0] rfl) ?_
            exact (hJ1452 ())
          · refine E.m (h2.iconst (v := (0 : Int32)) dL_law_1450 (by decide)) ?_
            exact E.some (fun q => q _ _ dL_law_1451)
        · refine E.m (h2.sub [2, 3, 4, 5, 6, 1, 0] rfl) ?_
          exact (hJ1452 ())
      · refine E.m (h2.iconst (v := (0 : Int32)) dL_law_1433 (by decide)) ?_
        exact E.some (fun q => q _ _ dL_law_1434)
    refine E.sw (fun hc k => h.tabIn (tgt := 1455) dL_law_40 (by rw [hc]; decide) (by rw [hc]; decide) (by rw [hc]; rfl) (by decide) k) ?_ (fun _ => ?_)
    · refine E.m (h.aload_n 1 dL_law_1455 rfl) ?_
      refine E.m (h.aload_n 0 dL_law_1456 rfl) ?_
      refine E.m (h.iload 4 dL_law_1457 rfl) ?_
      refine E.m (h.iconst (v := (1 : Int32)) dL_law_1459 (by decide)) ?_
      refine E.m (h.iadd dL_law_1460) ?_
      refine E.gi (fun hi k => HS.sld hi dL_law_1461 k) ?_
      refine E.m (h.aload_n 0 dL_law_1462 rfl) ?_
      refine E.m (h.iload 4 dL_law_1463 rfl) ?_
      refine E.m (h.iconst (v := (2 : Int32)) dL_law_1465 (by decide)) ?_
      refine E.m (h.iadd dL_law_1466) ?_
      refine E.gi (fun hi k => HS.sld hi dL_law_1467 k) ?_
      refine E.m (h.aload_n 0 dL_law_1468 rfl) ?_
      refine E.m (h.iload 4 dL_law_1469 rfl) ?_
      refine E.m (h.iconst (v := (3 : Int32)) dL_law_1471 (by decide)) ?_
      refine E.m (h.iadd dL_law_1472) ?_
      refine E.gi (fun hi k => HS.sld hi dL_law_1473 k) ?_
      refine E.m (h.aload_n 3 dL_law_1474 rfl) ?_
      refine E.bnd (fun u141 M142 => w1 M142 1478 [(0, .ref b), (1, .ref x), (2, .ref m), (3, .ref o), (4, .int i)] [.int u141]) (fun u141 M142 hf k => h3.callW (As := [.ref x, .int (xs (i + (1 : Int32)).toNatClampNeg), .int (xs (i + (2 : Int32)).toNatClampNeg), .int (xs (i + (3 : Int32)).toNatClampNeg), .ref o]) (rest := []) (c_L_years hfl hW h0 ho hf) lw_L_years ll_RL_170 rfl rfl (Nat.le_of_ble_eq_true rfl) (by decide) dL_law_1475 k) (fun u141 M142 => ?_)
      refine E.m (h2.istore dL_law_1478 (by decide) rfl) ?_
      refine E.m (h2.aload_n 3 dL_law_1480 rfl) ?_
      refine E.m (h2.aload_n 1 dL_law_1481 rfl) ?_
      refine E.m (h2.iload 5 dL_law_1482 rfl) ?_
      refine E.m (h2.iconst (v := (1 : Int32)) dL_law_1484 (by decide)) ?_
      refine E.m (h2.iadd dL_law_1485) ?_
      refine E.gi (fun hi k => HS2.sld hi dL_law_1486 k) ?_
      refine E.m (h2.aload_n 1 dL_law_1487 rfl) ?_
      refine E.m (h2.iload 5 dL_law_1488 rfl) ?_
      refine E.m (h2.iconst (v := (2 : Int32)) dL_law_1490 (by decide)) ?_
      refine E.m (h2.iadd dL_law_1491) ?_
      refine E.gi (fun hi k => HS2.sld hi dL_law_1492 k) ?_
      refine E.m (h2.aload_n 1 dL_law_1493 rfl) ?_
      refine E.m (h2.iload 5 dL_law_1494 rfl) ?_
      refine E.m (h2.iconst (v := (3 : Int32)) dL_law_1496 (by decide)) ?_
      refine E.m (h2.iadd dL_law_1497) ?_
      refine E.gi (fun hi k => HS2.sld hi dL_law_1498 k) ?_
      refine E.bnd (fun u143 M144 => w1 M144 1502 [(5, .int u141), (0, .ref b), (1, .ref x), (2, .ref m), (3, .ref o), (4, .int i)] [.int u143]) (fun u143 M144 hf k => h2.callV (As := [.int (xs (i + (1 : Int32)).toNatClampNeg), .int (xs (i + (2 : Int32)).toNatClampNeg), .int (xs (i + (3 : Int32)).toNatClampNeg)]) (rest := []) (c_X11_years hW h1 hf) lm_X11_years lv_m_X11_years ll_RL_173 h1 lc_11 rfl rfl (Nat.le_of_ble_eq_true rfl) (by decide) dL_law_1499 rfl k) (fun u143 M144 => ?_)
      refine E.m (h2.istore dL_law_1502 (by decide) rfl) ?_
      refine E.m (h2.aload_n 4 dL_law_1504 rfl) ?_
      refine E.bnd (fun u145 M146 => w1 M146 1508 [(6, .int u143), (5, .int u141), (0, .ref b), (1, .ref x), (2, .ref m), (3, .ref o), (4, .int i)] [.int u145]) (fun u145 M146 hf k => h2.callV (As := []) (rest := []) (c_X11_thrown hW h1 hf) lm_X11_thrown lv_m_X11_thrown ll_RL_85 h1 lc_11 rfl rfl (Nat.le_of_ble_eq_true rfl) (by decide) dL_law_1505 rfl k) (fun u145 M146 => ?_)
      refine E.m (h2.iload 1 dL_law_1508 rfl) ?_
      refine E.br (fun k1 k2 => h2.icmp_eq (tgt := 1515) dL_law_1510 (by decide) k1 k2) ?_ ?_
      · refine E.m (h2.iload 1 dL_law_1515 rfl) ?_
        refine E.join0 (fun _ => w1 M146 1532 [(0, .ref b), (1, .ref x), (2, .ref m), (3, .ref o), (4, .int i), (5, .int u141), (6, .int u143)] []) (fun _ => ?_) (fun J1532 hJ1532 => ?_)
        · refine E.m (h2.goto (tgt := 1559) dL_law_1532 (by decide)) ?_
          refine E.m (h2.sub [0, 1, 2, 3, 4] rfl) ?_
          exact (hJ1559 _)
        refine E.br (fun k1 k2 => h2.if_ne (tgt := 1532) dL_law_1517 (by decide) k2 k1) ?_ ?_
        · refine E.m (h2.aload_n 5 dL_law_1520 rfl) ?_
          refine E.m (h2.iconst (v := (0 : Int32)) dL_law_1521 (by decide)) ?_
          refine E.m (h2.lald ho (by decide) dL_law_1522) ?_
          refine E.m (h2.iload 0 dL_law_1523 rfl) ?_
          refine E.m (h2.i2l dL_law_1525) ?_
          refine E.m (h2.lcmp dL_law_1526) ?_
          refine E.br (fun k1 k2 => h2.if_eq (tgt := 1532) dL_law_1527 (by decide) k1 k2) ?_ ?_
          · refine E.m (h2.sub [2, 3, 4, 5, 6, 1, 0] rfl) ?_
            exact (hJ1532 ())
          · refine E.m (h2.iconst (v := (0 : Int32)) dL_law_1530 (by decide)) ?_
            exact E.some (fun q => q _ _ dL_law_1531)
        · refine E.m (h2.sub [2, 3, 4, 5, 6, 1, 0] rfl) ?_
          exact (hJ1532 ())
      · refine E.m (h2.iconst (v := (0 : Int32)) dL_law_1513 (by decide)) ?_
        exact E.some (fun q => q _ _ dL_law_1514)
    refine E.sw (fun hc k => h.tabIn (tgt := 1535) dL_law_40 (by rw [hc]; decide) (by rw [hc]; decide) (by rw [hc]; rfl) (by decide) k) ?_ (fun _ => ?_)
    · refine E.m (h.aload_n 1 dL_law_1535 rfl) ?_
      refine E.bnd (fun _ M148 => w M148 1539 [(0, .ref b), (1, .ref x), (2, .ref m), (3, .ref o), (4, .int i)] []) (fun _ M148 hf k => h.callV (As := []) (rest := []) (c_X10_image hW h0 hf) lm_X10_image lv_m_X10_image ll_RL_174 h0 lc_10 rfl rfl (Nat.le_of_ble_eq_true rfl) (by decide) dL_law_1536 rfl k) (fun _ M148 => ?_)
      refine E.m (h.aload_n 2 dL_law_1539 rfl) ?_
      refine E.bnd (fun _ M150 => w M150 1543 [(0, .ref b), (1, .ref x), (2, .ref m), (3, .ref o), (4, .int i)] []) (fun _ M150 hf k => h.callV (As := []) (rest := []) (c_X11_image hW h1 hf) lm_X11_image lv_m_X11_image ll_RL_177 h1 lc_11 rfl rfl (Nat.le_of_ble_eq_true rfl) (by decide) dL_law_1540 rfl k) (fun _ M150 => ?_)
      refine E.m (h.goto (tgt := 1559) dL_law_1543 (by decide)) ?_
      exact E.m (fun k => h3.wid k) (hJ1559 _)
    refine E.sw (fun hc k => h.tabIn (tgt := 1546) dL_law_40 (by rw [hc]; decide) (by rw [hc]; decide) (by rw [hc]; rfl) (by decide) k) ?_ (fun _ => ?_)
    · refine E.m (h.aload_n 1 dL_law_1546 rfl) ?_
      refine E.bnd (fun u151 M152 => w M152 1550 [(0, .ref b), (1, .ref x), (2, .ref m), (3, .ref o), (4, .int i)] [.int u151]) (fun u151 M152 hf k => h.callV (As := []) (rest := []) (c_X10_restore hW h0 hf) lm_X10_restore lv_m_X10_restore ll_RL_178 h0 lc_10 rfl rfl (Nat.le_of_ble_eq_true rfl) (by decide) dL_law_1547 rfl k) (fun u151 M152 => ?_)
      refine E.m (h.aload_n 2 dL_law_1550 rfl) ?_
      refine E.bnd (fun u153 M154 => w M154 1554 [(0, .ref b), (1, .ref x), (2, .ref m), (3, .ref o), (4, .int i)] [.int u153, .int u151]) (fun u153 M154 hf k => h.callV (As := []) (rest := [.int u151]) (c_X11_restore hW h1 hf) lm_X11_restore lv_m_X11_restore ll_RL_182 h1 lc_11 rfl rfl (Nat.le_of_ble_eq_true rfl) (by decide) dL_law_1551 rfl k) (fun u153 M154 => ?_)
      refine E.br (fun k1 k2 => h.icmp_eq (tgt := 1559) dL_law_1554 (by decide) k1 k2) ?_ ?_
      · exact E.m (fun k => h3.wid k) (hJ1559 _)
      · refine E.m (h.iconst (v := (0 : Int32)) dL_law_1557 (by decide)) ?_
        exact E.some (fun q => h3.wid (q _ _ dL_law_1558))
    exact E.none
