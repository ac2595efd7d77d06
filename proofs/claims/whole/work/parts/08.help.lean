section HELP
variable {τ σ : Type} {Φ : τ → Prop} {Φ' : σ ⊕ τ → Prop} {X X' : Prop} {o : Option τ}
theorem E.gih {i : Int32} {n : Nat} (hx : 0 ≤ i.toInt ∧ i.toInt < (n : Int) → X' → X) (k : 0 ≤ i.toInt ∧ i.toInt < (n : Int) → E Φ o X') : E Φ (gdi i n o) X := fun t h p => by
  unfold gdi at h
  by_cases hc : 0 ≤ i.toInt ∧ i.toInt < (n : Int)
  · rw [if_pos hc] at h
    exact hx hc (k hc t h p)
  · rw [if_neg hc] at h
    cases h
def up {σ τ : Type} (o : Option τ) : Option (σ ⊕ τ) := match o with
  | none => none
  | some t => some (.inr t)
theorem E.up (hp : ∀ t, Φ' (.inr t) → Φ t) (k : E Φ o X) : E Φ' (up o) X := fun t h p => by
  cases o with
  | none => cases h
  | some t' => cases h; exact k t' rfl (hp t' p)
theorem str_lt {i : Int32} {a n : Nat} (h : 0 ≤ i.toInt ∧ i.toInt < (n : Int)) (hn : a + n ≤ 32) : a + i.toNatClampNeg < 32 := by
  have := nn_z h.1
  omega
theorem ne_ti {x : Int32} {n : Nat} (h : ¬ x = Int32.ofNat n) (hn : n < 2 ^ 31 := by decide) : ¬ x.toInt = (n : Int) := fun e => h (Int32.toInt_inj.mp (by rw [e]; exact (Int32.toInt_ofNat_of_lt hn).symm))
theorem lkdf {x : Int32} (dflt : Int) (ps : List (Int × Int)) (h : ∀ q ∈ ps, x.toInt ≠ q.1) : Op.lookupswitch.offset ps dflt x.toInt = dflt := by
  induction ps with
  | nil => rfl
  | cons q ps ih =>
    have h1 := h q List.mem_cons_self
    have h2 := ih fun r hr => h r (List.mem_cons_of_mem _ hr)
    obtain ⟨a, o⟩ := q
    rw [Op.lookupswitch.offset_cons, if_neg (fun e => h1 e.symm), h2]
end HELP
section RETS
variable {cc : ByteArray} {w : Mem → Nat → List (Nat × Value) → List Value → Prop} {M M' : Mem} {pc : Nat} {ls : List (Nat × Value)}
theorem ret_v (hr : ∀ (pc : Nat) (ls : List (Nat × Value)), decode cc pc = .ok (.return_, 1) → w M' pc ls []) (d : decode cc pc = .ok (.return_, 1)) : (((), M) : Unit × Mem) = ((), M') → w M pc ls [] := fun e => by cases e; exact hr pc ls d
theorem ret_i {ty : FieldType} {r v : Int32} (hr : ∀ (pc : Nat) (ls : List (Nat × Value)), narrow ty (.int r) = .int r → decode cc pc = .ok (.ireturn, 1) → w M' pc ls [.int r]) (hn : narrow ty (.int v) = .int v) (d : decode cc pc = .ok (.ireturn, 1)) : (v, M) = (r, M') → w M pc ls [.int v] := fun e => by cases e; exact hr pc ls hn d
theorem ret_a {r v : Nat} (hr : ∀ (pc : Nat) (ls : List (Nat × Value)), decode cc pc = .ok (.areturn, 1) → w M' pc ls [.ref r]) (d : decode cc pc = .ok (.areturn, 1)) : (v, M) = (r, M') → w M pc ls [.ref v] := fun e => by cases e; exact hr pc ls d
end RETS
section RB3
variable {G : Ctx} {cc : ByteArray} {own : String} {nL F Lo : Nat} {w : Mem → Nat → List (Nat × Value) → List Value → Prop} {M : Mem} {pc : Nat} {ls : List (Nat × Value)} {st : List Value}
theorem Rb.ialdk (h : Rb G cc own nL F Lo w) {a n k : Nat} {i : Int32} (ha : hs G a (1, n)) (hi : 0 ≤ i.toInt ∧ i.toInt < n) (hk : i.toNatClampNeg = k) (d : decode cc pc = .ok (.iaload, 1)) (kk : w M (pc + 1) ls (.int (M.1 a k) :: st)) : w M pc ls (.int i :: .ref a :: st) := by
  subst hk
  exact h.iald ha hi d kk
theorem Rb.zaldk (h : Rb G cc own nL F Lo w) {a n k : Nat} {i : Int32} (ha : hs G a (2, n)) (hi : 0 ≤ i.toInt ∧ i.toInt < n) (hk : i.toNatClampNeg = k) (d : decode cc pc = .ok (.baload, 1)) (kk : w M (pc + 1) ls (.int (M.1 a k) :: st)) : w M pc ls (.int i :: .ref a :: st) := by
  subst hk
  exact h.zald ha hi d kk
theorem Rb.iastk (h : Rb G cc own nL F Lo w) {a n k : Nat} {i v : Int32} (ha : hs G a (1, n)) (hi : 0 ≤ i.toInt ∧ i.toInt < n) (hk : i.toNatClampNeg = k) (d : decode cc pc = .ok (.iastore, 1)) (kk : w (wi M a k v) (pc + 1) ls st) : w M pc ls (.int v :: .int i :: .ref a :: st) := by
  subst hk
  exact h.iast ha hi d kk
end RB3
