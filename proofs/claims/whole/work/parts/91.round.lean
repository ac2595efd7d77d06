/-! One round of the law -/
theorem hin_line {x : Nat} {a v : Int32} {M M1 : Mem} (h : f_X10_line x a M = some (.inl v, M1)) : f_L_line x a (x + 122) M = some (0, wl M1 (x + 122) 0 v.toInt64) := by
  unfold f_L_line
  rw [bd_eq h]
theorem her_line {x e : Nat} {a : Int32} {M M1 : Mem} (h : f_X10_line x a M = some (.inr e, M1)) (hk : ¬ κ1 e = 0) : f_L_line x a (x + 122) M = some (κ1 e, M1) := by
  unfold f_L_line
  rw [bd_eq h]
  unfold κ1 at hk ⊢
  by_cases q : e = 1
  · subst q
    rfl
  · rw [if_neg q] at hk
    exact absurd rfl hk
theorem law_line {x : Nat} {a : Int32} {M : Mem} (h : IV x M) : ∃ u M1 v M2, f_L_line x a (x + 122) M = some (u, M1) ∧ f_X11_line (x + 95) a M1 = some (v, M2) ∧ M2.1 (x + 95) 2 = u ∧ IV x M2 ∧ (u = 0 → lg_cmp (M2.2.1 (x + 122) 0) v.toInt64 = 0) := law_T (fL := fun M => f_L_line x a (x + 122) M) (fc := fun M => f_X10_line x a M) (fm := fun M => f_X11_line (x + 95) a M) h (fun _ _ _ _ hr => call_line hr) (fun _ _ h => hin_line h) (fun _ _ h hk => her_line h hk)
theorem hin_count {x : Nat} {a v : Int32} {M M1 : Mem} (h : f_X10_count x a M = some (.inl v, M1)) : f_L_count x a (x + 122) M = some (0, wl M1 (x + 122) 0 v.toInt64) := by
  unfold f_L_count
  rw [bd_eq h]
theorem her_count {x e : Nat} {a : Int32} {M M1 : Mem} (h : f_X10_count x a M = some (.inr e, M1)) (hk : ¬ κ0 e = 0) : f_L_count x a (x + 122) M = some (κ0 e, M1) := by
  unfold f_L_count
  rw [bd_eq h]
  unfold κ0 at hk ⊢
  by_cases q : e = 0
  · subst q
    rfl
  · rw [if_neg q] at hk
    exact absurd rfl hk
theorem law_count {x : Nat} {a : Int32} {M : Mem} (h : IV x M) : ∃ u M1 v M2, f_L_count x a (x + 122) M = some (u, M1) ∧ f_X11_count (x + 95) a M1 = some (v, M2) ∧ M2.1 (x + 95) 2 = u ∧ IV x M2 ∧ (u = 0 → lg_cmp (M2.2.1 (x + 122) 0) v.toInt64 = 0) := law_T (fL := fun M => f_L_count x a (x + 122) M) (fc := fun M => f_X10_count x a M) (fm := fun M => f_X11_count (x + 95) a M) h (fun _ _ _ _ hr => call_count hr) (fun _ _ h => hin_count h) (fun _ _ h hk => her_count h hk)
theorem hin_set {x : Nat} {a v : Int32} {M M1 : Mem} (h : f_X10_set x a M = some (.inl v, M1)) : f_L_set x a (x + 122) M = some (0, wl M1 (x + 122) 0 v.toInt64) := by
  unfold f_L_set
  rw [bd_eq h]
theorem her_set {x e : Nat} {a : Int32} {M M1 : Mem} (h : f_X10_set x a M = some (.inr e, M1)) (hk : ¬ κ0 e = 0) : f_L_set x a (x + 122) M = some (κ0 e, M1) := by
  unfold f_L_set
  rw [bd_eq h]
  unfold κ0 at hk ⊢
  by_cases q : e = 0
  · subst q
    rfl
  · rw [if_neg q] at hk
    exact absurd rfl hk
theorem law_set {x : Nat} {a : Int32} {M : Mem} (h : IV x M) : ∃ u M1 v M2, f_L_set x a (x + 122) M = some (u, M1) ∧ f_X11_set (x + 95) a M1 = some (v, M2) ∧ M2.1 (x + 95) 2 = u ∧ IV x M2 ∧ (u = 0 → lg_cmp (M2.2.1 (x + 122) 0) v.toInt64 = 0) := law_T (fL := fun M => f_L_set x a (x + 122) M) (fc := fun M => f_X10_set x a M) (fm := fun M => f_X11_set (x + 95) a M) h (fun _ _ _ _ hr => call_set hr) (fun _ _ h => hin_set h) (fun _ _ h hk => her_set h hk)
theorem hin_flying {x : Nat} {a b v : Int32} {M M1 : Mem} (h : f_X10_flying x a b M = some (.inl v, M1)) : f_L_flying x a b (x + 122) M = some (0, wl M1 (x + 122) 0 v.toInt64) := by
  unfold f_L_flying
  rw [bd_eq h]
theorem her_flying {x e : Nat} {a b : Int32} {M M1 : Mem} (h : f_X10_flying x a b M = some (.inr e, M1)) (hk : ¬ κ0 e = 0) : f_L_flying x a b (x + 122) M = some (κ0 e, M1) := by
  unfold f_L_flying
  rw [bd_eq h]
  unfold κ0 at hk ⊢
  by_cases q : e = 0
  · subst q
    rfl
  · rw [if_neg q] at hk
    exact absurd rfl hk
theorem law_flying {x : Nat} {a b : Int32} {M : Mem} (h : IV x M) : ∃ u M1 v M2, f_L_flying x a b (x + 122) M = some (u, M1) ∧ f_X11_flying (x + 95) a b M1 = some (v, M2) ∧ M2.1 (x + 95) 2 = u ∧ IV x M2 ∧ (u = 0 → lg_cmp (M2.2.1 (x + 122) 0) v.toInt64 = 0) := law_T (fL := fun M => f_L_flying x a b (x + 122) M) (fc := fun M => f_X10_flying x a b M) (fm := fun M => f_X11_flying (x + 95) a b M) h (fun _ _ _ _ hr => call_flying hr) (fun _ _ h => hin_flying h) (fun _ _ h hk => her_flying h hk)
theorem hin_slot {x : Nat} {a v : Int32} {M M1 : Mem} (h : f_X10_slot x a M = some (.inl v, M1)) : f_L_slot x a (x + 122) M = some (0, wl M1 (x + 122) 0 v.toInt64) := by
  unfold f_L_slot
  rw [bd_eq h]
theorem her_slot {x e : Nat} {a : Int32} {M M1 : Mem} (h : f_X10_slot x a M = some (.inr e, M1)) (hk : ¬ κ0 e = 0) : f_L_slot x a (x + 122) M = some (κ0 e, M1) := by
  unfold f_L_slot
  rw [bd_eq h]
  unfold κ0 at hk ⊢
  by_cases q : e = 0
  · subst q
    rfl
  · rw [if_neg q] at hk
    exact absurd rfl hk
theorem law_slot {x : Nat} {a : Int32} {M : Mem} (h : IV x M) : ∃ u M1 v M2, f_L_slot x a (x + 122) M = some (u, M1) ∧ f_X11_slot (x + 95) a M1 = some (v, M2) ∧ M2.1 (x + 95) 2 = u ∧ IV x M2 ∧ (u = 0 → lg_cmp (M2.2.1 (x + 122) 0) v.toInt64 = 0) := law_T (fL := fun M => f_L_slot x a (x + 122) M) (fc := fun M => f_X10_slot x a M) (fm := fun M => f_X11_slot (x + 95) a M) h (fun _ _ _ _ hr => call_slot hr) (fun _ _ h => hin_slot h) (fun _ _ h hk => her_slot h hk)
theorem hin_played {x : Nat} {a b v : Int32} {M M1 : Mem} (h : f_X10_played x a b M = some (.inl v, M1)) : f_L_played x a b (x + 122) M = some (0, wl M1 (x + 122) 0 v.toInt64) := by
  unfold f_L_played
  rw [bd_eq h]
theorem her_played {x e : Nat} {a b : Int32} {M M1 : Mem} (h : f_X10_played x a b M = some (.inr e, M1)) (hk : ¬ κ0 e = 0) : f_L_played x a b (x + 122) M = some (κ0 e, M1) := by
  unfold f_L_played
  rw [bd_eq h]
  unfold κ0 at hk ⊢
  by_cases q : e = 0
  · subst q
    rfl
  · rw [if_neg q] at hk
    exact absurd rfl hk
theorem law_played {x : Nat} {a b : Int32} {M : Mem} (h : IV x M) : ∃ u M1 v M2, f_L_played x a b (x + 122) M = some (u, M1) ∧ f_X11_played (x + 95) a b M1 = some (v, M2) ∧ M2.1 (x + 95) 2 = u ∧ IV x M2 ∧ (u = 0 → lg_cmp (M2.2.1 (x + 122) 0) v.toInt64 = 0) := law_T (fL := fun M => f_L_played x a b (x + 122) M) (fc := fun M => f_X10_played x a b M) (fm := fun M => f_X11_played (x + 95) a b M) h (fun _ _ _ _ hr => call_played hr) (fun _ _ h => hin_played h) (fun _ _ h hk => her_played h hk)
theorem hin_spans {x : Nat} {a b v : Int32} {M M1 : Mem} (h : f_X10_spans x a b M = some (.inl v, M1)) : f_L_spans x a b (x + 122) M = some (0, wl M1 (x + 122) 0 v.toInt64) := by
  unfold f_L_spans
  rw [bd_eq h]
theorem her_spans {x e : Nat} {a b : Int32} {M M1 : Mem} (h : f_X10_spans x a b M = some (.inr e, M1)) (hk : ¬ κ2 e = 0) : f_L_spans x a b (x + 122) M = some (κ2 e, M1) := by
  unfold f_L_spans
  rw [bd_eq h]
  unfold κ2 at hk ⊢
  by_cases q : e = 0
  · subst q
    rfl
  · by_cases q1 : e = 1
    · subst q1
      rfl
    · rw [if_neg q, if_neg q1] at hk
      exact absurd rfl hk
theorem law_spans {x : Nat} {a b : Int32} {M : Mem} (h : IV x M) : ∃ u M1 v M2, f_L_spans x a b (x + 122) M = some (u, M1) ∧ f_X11_spans (x + 95) a b M1 = some (v, M2) ∧ M2.1 (x + 95) 2 = u ∧ IV x M2 ∧ (u = 0 → lg_cmp (M2.2.1 (x + 122) 0) v.toInt64 = 0) := law_T (fL := fun M => f_L_spans x a b (x + 122) M) (fc := fun M => f_X10_spans x a b M) (fm := fun M => f_X11_spans (x + 95) a b M) h (fun _ _ _ _ hr => call_spans hr) (fun _ _ h => hin_spans h) (fun _ _ h hk => her_spans h hk)
theorem hin_sample {x : Nat} {a v : Int32} {M M1 : Mem} (h : f_X10_sample x a M = some (.inl v, M1)) : f_L_sample x a (x + 122) M = some (0, wl M1 (x + 122) 0 v.toInt64) := by
  unfold f_L_sample
  rw [bd_eq h]
theorem her_sample {x e : Nat} {a : Int32} {M M1 : Mem} (h : f_X10_sample x a M = some (.inr e, M1)) (hk : ¬ κ0 e = 0) : f_L_sample x a (x + 122) M = some (κ0 e, M1) := by
  unfold f_L_sample
  rw [bd_eq h]
  unfold κ0 at hk ⊢
  by_cases q : e = 0
  · subst q
    rfl
  · rw [if_neg q] at hk
    exact absurd rfl hk
theorem law_sample {x : Nat} {a : Int32} {M : Mem} (h : IV x M) : ∃ u M1 v M2, f_L_sample x a (x + 122) M = some (u, M1) ∧ f_X11_sample (x + 95) a M1 = some (v, M2) ∧ M2.1 (x + 95) 2 = u ∧ IV x M2 ∧ (u = 0 → lg_cmp (M2.2.1 (x + 122) 0) v.toInt64 = 0) := law_T (fL := fun M => f_L_sample x a (x + 122) M) (fc := fun M => f_X10_sample x a M) (fm := fun M => f_X11_sample (x + 95) a M) h (fun _ _ _ _ hr => call_sample hr) (fun _ _ h => hin_sample h) (fun _ _ h hk => her_sample h hk)
theorem hin_wander {x : Nat} {a v : Int32} {M M1 : Mem} (h : f_X10_wander x a M = some (.inl v, M1)) : f_L_wander x a (x + 122) M = some (0, wl M1 (x + 122) 0 v.toInt64) := by
  unfold f_L_wander
  rw [bd_eq h]
theorem her_wander {x e : Nat} {a : Int32} {M M1 : Mem} (h : f_X10_wander x a M = some (.inr e, M1)) (hk : ¬ κ1 e = 0) : f_L_wander x a (x + 122) M = some (κ1 e, M1) := by
  unfold f_L_wander
  rw [bd_eq h]
  unfold κ1 at hk ⊢
  by_cases q : e = 1
  · subst q
    rfl
  · rw [if_neg q] at hk
    exact absurd rfl hk
theorem law_wander {x : Nat} {a : Int32} {M : Mem} (h : IV x M) : ∃ u M1 v M2, f_L_wander x a (x + 122) M = some (u, M1) ∧ f_X11_wander (x + 95) a M1 = some (v, M2) ∧ M2.1 (x + 95) 2 = u ∧ IV x M2 ∧ (u = 0 → lg_cmp (M2.2.1 (x + 122) 0) v.toInt64 = 0) := law_T (fL := fun M => f_L_wander x a (x + 122) M) (fc := fun M => f_X10_wander x a M) (fm := fun M => f_X11_wander (x + 95) a M) h (fun _ _ _ _ hr => call_wander hr) (fun _ _ h => hin_wander h) (fun _ _ h hk => her_wander h hk)
theorem hin_turn {x : Nat} {a b v : Int32} {M M1 : Mem} (h : f_X10_turn x a b M = some (.inl v, M1)) : f_L_turn x a b (x + 122) M = some (0, wl M1 (x + 122) 0 v.toInt64) := by
  unfold f_L_turn
  rw [bd_eq h]
theorem her_turn {x e : Nat} {a b : Int32} {M M1 : Mem} (h : f_X10_turn x a b M = some (.inr e, M1)) (hk : ¬ κ0 e = 0) : f_L_turn x a b (x + 122) M = some (κ0 e, M1) := by
  unfold f_L_turn
  rw [bd_eq h]
  unfold κ0 at hk ⊢
  by_cases q : e = 0
  · subst q
    rfl
  · rw [if_neg q] at hk
    exact absurd rfl hk
theorem law_turn {x : Nat} {a b : Int32} {M : Mem} (h : IV x M) : ∃ u M1 v M2, f_L_turn x a b (x + 122) M = some (u, M1) ∧ f_X11_turn (x + 95) a b M1 = some (v, M2) ∧ M2.1 (x + 95) 2 = u ∧ IV x M2 ∧ (u = 0 → lg_cmp (M2.2.1 (x + 122) 0) v.toInt64 = 0) := law_T (fL := fun M => f_L_turn x a b (x + 122) M) (fc := fun M => f_X10_turn x a b M) (fm := fun M => f_X11_turn (x + 95) a b M) h (fun _ _ _ _ hr => call_turn hr) (fun _ _ h => hin_turn h) (fun _ _ h hk => her_turn h hk)
theorem hin_then {x : Nat} {a b v : Int32} {M M1 : Mem} (h : f_X10_then x a b M = some (.inl v, M1)) : f_L_then x a b (x + 122) M = some (0, wl M1 (x + 122) 0 v.toInt64) := by
  unfold f_L_then
  rw [bd_eq h]
theorem her_then {x e : Nat} {a b : Int32} {M M1 : Mem} (h : f_X10_then x a b M = some (.inr e, M1)) (hk : ¬ κ2 e = 0) : f_L_then x a b (x + 122) M = some (κ2 e, M1) := by
  unfold f_L_then
  rw [bd_eq h]
  unfold κ2 at hk ⊢
  by_cases q : e = 0
  · subst q
    rfl
  · by_cases q1 : e = 1
    · subst q1
      rfl
    · rw [if_neg q, if_neg q1] at hk
      exact absurd rfl hk
theorem law_then {x : Nat} {a b : Int32} {M : Mem} (h : IV x M) : ∃ u M1 v M2, f_L_then x a b (x + 122) M = some (u, M1) ∧ f_X11_then (x + 95) a b M1 = some (v, M2) ∧ M2.1 (x + 95) 2 = u ∧ IV x M2 ∧ (u = 0 → lg_cmp (M2.2.1 (x + 122) 0) v.toInt64 = 0) := law_T (fL := fun M => f_L_then x a b (x + 122) M) (fc := fun M => f_X10_then x a b M) (fm := fun M => f_X11_then (x + 95) a b M) h (fun _ _ _ _ hr => call_then hr) (fun _ _ h => hin_then h) (fun _ _ h hk => her_then h hk)
theorem hin_when {x : Nat} {a v : Int32} {M M1 : Mem} (h : f_X10_when x a M = some (.inl v, M1)) : f_L_when x a (x + 122) M = some (0, wl M1 (x + 122) 0 v.toInt64) := by
  unfold f_L_when
  rw [bd_eq h]
theorem her_when {x e : Nat} {a : Int32} {M M1 : Mem} (h : f_X10_when x a M = some (.inr e, M1)) (hk : ¬ κ0 e = 0) : f_L_when x a (x + 122) M = some (κ0 e, M1) := by
  unfold f_L_when
  rw [bd_eq h]
  unfold κ0 at hk ⊢
  by_cases q : e = 0
  · subst q
    rfl
  · rw [if_neg q] at hk
    exact absurd rfl hk
theorem law_when {x : Nat} {a : Int32} {M : Mem} (h : IV x M) : ∃ u M1 v M2, f_L_when x a (x + 122) M = some (u, M1) ∧ f_X11_when (x + 95) a M1 = some (v, M2) ∧ M2.1 (x + 95) 2 = u ∧ IV x M2 ∧ (u = 0 → lg_cmp (M2.2.1 (x + 122) 0) v.toInt64 = 0) := law_T (fL := fun M => f_L_when x a (x + 122) M) (fc := fun M => f_X10_when x a M) (fm := fun M => f_X11_when (x + 95) a M) h (fun _ _ _ _ hr => call_when hr) (fun _ _ h => hin_when h) (fun _ _ h hk => her_when h hk)
theorem hin_toAim {x : Nat} {a b v : Int32} {M M1 : Mem} (h : f_X10_toAim x a b M = some (.inl v, M1)) : f_L_toAim x a b (x + 122) M = some (0, wl M1 (x + 122) 0 v.toInt64) := by
  unfold f_L_toAim
  rw [bd_eq h]
theorem her_toAim {x e : Nat} {a b : Int32} {M M1 : Mem} (h : f_X10_toAim x a b M = some (.inr e, M1)) (hk : ¬ κ2 e = 0) : f_L_toAim x a b (x + 122) M = some (κ2 e, M1) := by
  unfold f_L_toAim
  rw [bd_eq h]
  unfold κ2 at hk ⊢
  by_cases q : e = 0
  · subst q
    rfl
  · by_cases q1 : e = 1
    · subst q1
      rfl
    · rw [if_neg q, if_neg q1] at hk
      exact absurd rfl hk
theorem law_toAim {x : Nat} {a b : Int32} {M : Mem} (h : IV x M) : ∃ u M1 v M2, f_L_toAim x a b (x + 122) M = some (u, M1) ∧ f_X11_toAim (x + 95) a b M1 = some (v, M2) ∧ M2.1 (x + 95) 2 = u ∧ IV x M2 ∧ (u = 0 → lg_cmp (M2.2.1 (x + 122) 0) v.toInt64 = 0) := law_T (fL := fun M => f_L_toAim x a b (x + 122) M) (fc := fun M => f_X10_toAim x a b M) (fm := fun M => f_X11_toAim (x + 95) a b M) h (fun _ _ _ _ hr => call_toAim hr) (fun _ _ h => hin_toAim h) (fun _ _ h hk => her_toAim h hk)
theorem hin_toGain {x : Nat} {a b v : Int32} {M M1 : Mem} (h : f_X10_toGain x a b M = some (.inl v, M1)) : f_L_toGain x a b (x + 122) M = some (0, wl M1 (x + 122) 0 v.toInt64) := by
  unfold f_L_toGain
  rw [bd_eq h]
theorem her_toGain {x e : Nat} {a b : Int32} {M M1 : Mem} (h : f_X10_toGain x a b M = some (.inr e, M1)) (hk : ¬ κ2 e = 0) : f_L_toGain x a b (x + 122) M = some (κ2 e, M1) := by
  unfold f_L_toGain
  rw [bd_eq h]
  unfold κ2 at hk ⊢
  by_cases q : e = 0
  · subst q
    rfl
  · by_cases q1 : e = 1
    · subst q1
      rfl
    · rw [if_neg q, if_neg q1] at hk
      exact absurd rfl hk
theorem law_toGain {x : Nat} {a b : Int32} {M : Mem} (h : IV x M) : ∃ u M1 v M2, f_L_toGain x a b (x + 122) M = some (u, M1) ∧ f_X11_toGain (x + 95) a b M1 = some (v, M2) ∧ M2.1 (x + 95) 2 = u ∧ IV x M2 ∧ (u = 0 → lg_cmp (M2.2.1 (x + 122) 0) v.toInt64 = 0) := law_T (fL := fun M => f_L_toGain x a b (x + 122) M) (fc := fun M => f_X10_toGain x a b M) (fm := fun M => f_X11_toGain (x + 95) a b M) h (fun _ _ _ _ hr => call_toGain hr) (fun _ _ h => hin_toGain h) (fun _ _ h hk => her_toGain h hk)
theorem hin_other {x : Nat} {a v : Int32} {M M1 : Mem} (h : f_X10_other x a M = some (.inl v, M1)) : f_L_other x a (x + 122) M = some (0, wl M1 (x + 122) 0 v.toInt64) := by
  unfold f_L_other
  rw [bd_eq h]
theorem her_other {x e : Nat} {a : Int32} {M M1 : Mem} (h : f_X10_other x a M = some (.inr e, M1)) (hk : ¬ κ0 e = 0) : f_L_other x a (x + 122) M = some (κ0 e, M1) := by
  unfold f_L_other
  rw [bd_eq h]
  unfold κ0 at hk ⊢
  by_cases q : e = 0
  · subst q
    rfl
  · rw [if_neg q] at hk
    exact absurd rfl hk
theorem law_other {x : Nat} {a : Int32} {M : Mem} (h : IV x M) : ∃ u M1 v M2, f_L_other x a (x + 122) M = some (u, M1) ∧ f_X11_other (x + 95) a M1 = some (v, M2) ∧ M2.1 (x + 95) 2 = u ∧ IV x M2 ∧ (u = 0 → lg_cmp (M2.2.1 (x + 122) 0) v.toInt64 = 0) := law_T (fL := fun M => f_L_other x a (x + 122) M) (fc := fun M => f_X10_other x a M) (fm := fun M => f_X11_other (x + 95) a M) h (fun _ _ _ _ hr => call_other hr) (fun _ _ h => hin_other h) (fun _ _ h hk => her_other h hk)
theorem hin_look {x : Nat} {a v : Int32} {M M1 : Mem} (h : f_X10_look x a M = some (.inl v, M1)) : f_L_look x a (x + 122) M = some (0, wl M1 (x + 122) 0 v.toInt64) := by
  unfold f_L_look
  rw [bd_eq h]
theorem her_look {x e : Nat} {a : Int32} {M M1 : Mem} (h : f_X10_look x a M = some (.inr e, M1)) (hk : ¬ κ0 e = 0) : f_L_look x a (x + 122) M = some (κ0 e, M1) := by
  unfold f_L_look
  rw [bd_eq h]
  unfold κ0 at hk ⊢
  by_cases q : e = 0
  · subst q
    rfl
  · rw [if_neg q] at hk
    exact absurd rfl hk
theorem law_look {x : Nat} {a : Int32} {M : Mem} (h : IV x M) : ∃ u M1 v M2, f_L_look x a (x + 122) M = some (u, M1) ∧ f_X11_look (x + 95) a M1 = some (v, M2) ∧ M2.1 (x + 95) 2 = u ∧ IV x M2 ∧ (u = 0 → lg_cmp (M2.2.1 (x + 122) 0) v.toInt64 = 0) := law_T (fL := fun M => f_L_look x a (x + 122) M) (fc := fun M => f_X10_look x a M) (fm := fun M => f_X11_look (x + 95) a M) h (fun _ _ _ _ hr => call_look hr) (fun _ _ h => hin_look h) (fun _ _ h hk => her_look h hk)
theorem hin_storms {x : Nat} {a b v : Int32} {M M1 : Mem} (h : f_X10_storms x a b M = some (.inl v, M1)) : f_L_storms x a b (x + 122) M = some (0, wl M1 (x + 122) 0 v.toInt64) := by
  unfold f_L_storms
  rw [bd_eq h]
theorem her_storms {x e : Nat} {a b : Int32} {M M1 : Mem} (h : f_X10_storms x a b M = some (.inr e, M1)) (hk : ¬ κ1 e = 0) : f_L_storms x a b (x + 122) M = some (κ1 e, M1) := by
  unfold f_L_storms
  rw [bd_eq h]
  unfold κ1 at hk ⊢
  by_cases q : e = 1
  · subst q
    rfl
  · rw [if_neg q] at hk
    exact absurd rfl hk
theorem law_storms {x : Nat} {a b : Int32} {M : Mem} (h : IV x M) : ∃ u M1 v M2, f_L_storms x a b (x + 122) M = some (u, M1) ∧ f_X11_storms (x + 95) a b M1 = some (v, M2) ∧ M2.1 (x + 95) 2 = u ∧ IV x M2 ∧ (u = 0 → lg_cmp (M2.2.1 (x + 122) 0) v.toInt64 = 0) := law_T (fL := fun M => f_L_storms x a b (x + 122) M) (fc := fun M => f_X10_storms x a b M) (fm := fun M => f_X11_storms (x + 95) a b M) h (fun _ _ _ _ hr => call_storms hr) (fun _ _ h => hin_storms h) (fun _ _ h hk => her_storms h hk)
theorem hin_years {x : Nat} {a b c v : Int32} {M M1 : Mem} (h : f_X10_years x a b c M = some (.inl v, M1)) : f_L_years x a b c (x + 122) M = some (0, wl M1 (x + 122) 0 v.toInt64) := by
  unfold f_L_years
  rw [bd_eq h]
theorem her_years {x e : Nat} {a b c : Int32} {M M1 : Mem} (h : f_X10_years x a b c M = some (.inr e, M1)) (hk : ¬ κ2 e = 0) : f_L_years x a b c (x + 122) M = some (κ2 e, M1) := by
  unfold f_L_years
  rw [bd_eq h]
  unfold κ2 at hk ⊢
  by_cases q : e = 0
  · subst q
    rfl
  · by_cases q1 : e = 1
    · subst q1
      rfl
    · rw [if_neg q, if_neg q1] at hk
      exact absurd rfl hk
theorem law_years {x : Nat} {a b c : Int32} {M : Mem} (h : IV x M) : ∃ u M1 v M2, f_L_years x a b c (x + 122) M = some (u, M1) ∧ f_X11_years (x + 95) a b c M1 = some (v, M2) ∧ M2.1 (x + 95) 2 = u ∧ IV x M2 ∧ (u = 0 → lg_cmp (M2.2.1 (x + 122) 0) v.toInt64 = 0) := law_T (fL := fun M => f_L_years x a b c (x + 122) M) (fc := fun M => f_X10_years x a b c M) (fm := fun M => f_X11_years (x + 95) a b c M) h (fun _ _ _ _ hr => call_years hr) (fun _ _ h => hin_years h) (fun _ _ h hk => her_years h hk)
theorem law_fault {x : Nat} {M : Mem} (h : IV x M) : ∃ v M1 M2, f_X10_fault x M = some (v, M1) ∧ f_X11_fault (x + 95) M1 = some (v, M2) ∧ IV x M2 := law_V (fc := fun M => f_X10_fault x M) (fm := fun M => f_X11_fault (x + 95) M) h (fun _ _ _ _ hr => call_fault hr)
theorem law_steps {x : Nat} {a : Int32} {M : Mem} (h : IV x M) : ∃ v M1 M2, f_X10_steps x a M = some (v, M1) ∧ f_X11_steps (x + 95) a M1 = some (v, M2) ∧ IV x M2 := law_V (fc := fun M => f_X10_steps x a M) (fm := fun M => f_X11_steps (x + 95) a M) h (fun _ _ _ _ hr => call_steps hr)
theorem law_lose {x : Nat} {a : Int32} {M : Mem} (h : IV x M) : ∃ v M1 M2, f_X10_lose x a M = some (v, M1) ∧ f_X11_lose (x + 95) a M1 = some (v, M2) ∧ IV x M2 := law_V (fc := fun M => f_X10_lose x a M) (fm := fun M => f_X11_lose (x + 95) a M) h (fun _ _ _ _ hr => call_lose hr)
theorem law_stall {x : Nat} {a : Int32} {M : Mem} (h : IV x M) : ∃ v M1 M2, f_X10_stall x a M = some (v, M1) ∧ f_X11_stall (x + 95) a M1 = some (v, M2) ∧ IV x M2 := law_V (fc := fun M => f_X10_stall x a M) (fm := fun M => f_X11_stall (x + 95) a M) h (fun _ _ _ _ hr => call_stall hr)
theorem law_undo {x : Nat} {M : Mem} (h : IV x M) : ∃ v M1 M2, f_X10_undo x M = some (v, M1) ∧ f_X11_undo (x + 95) M1 = some (v, M2) ∧ IV x M2 := law_V (fc := fun M => f_X10_undo x M) (fm := fun M => f_X11_undo (x + 95) M) h (fun _ _ _ _ hr => call_undo hr)
theorem law_settles {x : Nat} {M : Mem} (h : IV x M) : ∃ v M1 M2, f_X10_settles x M = some (v, M1) ∧ f_X11_settles (x + 95) M1 = some (v, M2) ∧ IV x M2 := law_V (fc := fun M => f_X10_settles x M) (fm := fun M => f_X11_settles (x + 95) M) h (fun _ _ _ _ hr => call_settles hr)
theorem law_note {x : Nat} {a b : Int32} {M : Mem} (h : IV x M) : ∃ v M1 M2, f_X10_note x a b M = some (v, M1) ∧ f_X11_note (x + 95) a b M1 = some (v, M2) ∧ IV x M2 := law_V (fc := fun M => f_X10_note x a b M) (fm := fun M => f_X11_note (x + 95) a b M) h (fun _ _ _ _ hr => call_note hr)
theorem law_restore {x : Nat} {M : Mem} (h : IV x M) : ∃ v M1 M2, f_X10_restore x M = some (v, M1) ∧ f_X11_restore (x + 95) M1 = some (v, M2) ∧ IV x M2 := law_V (fc := fun M => f_X10_restore x M) (fm := fun M => f_X11_restore (x + 95) M) h (fun _ _ _ _ hr => call_restore hr)
theorem law_forget {x : Nat} {M : Mem} (h : IV x M) : ∃ M1 M2, f_X10_forget x M = some ((), M1) ∧ f_X11_forget (x + 95) M1 = some ((), M2) ∧ IV x M2 := law_U (fc := fun M => f_X10_forget x M) (fm := fun M => f_X11_forget (x + 95) M) h (fun _ _ _ _ hr => call_forget hr)
theorem law_image {x : Nat} {M : Mem} (h : IV x M) : ∃ M1 M2, f_X10_image x M = some ((), M1) ∧ f_X11_image (x + 95) M1 = some ((), M2) ∧ IV x M2 := law_U (fc := fun M => f_X10_image x M) (fm := fun M => f_X11_image (x + 95) M) h (fun _ _ _ _ hr => call_image hr)
theorem law_round (x L : Nat) (xs : Nat → Int32) (k : Nat) (M : Mem) (hL : L ≤ 3072) (hk : k + 6 ≤ L) (hM : IV x M) : ∃ M', l_law L xs x (x + 95) (x + 122) (Int32.ofNat k) M = some (.inl (Int32.ofNat (k + 6), M')) ∧ IV x M' := by
  have hexit : ¬ Int32.ofNat L - 6 < Int32.ofNat k := fun g => by
    have e : Int32.ofNat L - 6 = Int32.ofNat (L - 6) := i_sbn (b := 6) (by omega)
    rw [e] at g
    have := (i_lt (by omega) (by omega)).mp g
    omega
  have g0 : 0 ≤ (Int32.ofNat k).toInt ∧ (Int32.ofNat k).toInt < (L : Int) := i_rng (by omega) (by omega)
  have gg : ∀ j, j < 6 → 0 ≤ (Int32.ofNat k + Int32.ofNat j).toInt ∧ (Int32.ofNat k + Int32.ofNat j).toInt < (L : Int) := fun j hj => by
    rw [i_ad]
    exact i_rng (by omega) (by omega)
  have g1 : 0 ≤ (Int32.ofNat k + (1 : Int32)).toInt ∧ (Int32.ofNat k + (1 : Int32)).toInt < (L : Int) := gg 1 (by decide)
  have g2 : 0 ≤ (Int32.ofNat k + (2 : Int32)).toInt ∧ (Int32.ofNat k + (2 : Int32)).toInt < (L : Int) := gg 2 (by decide)
  have g3 : 0 ≤ (Int32.ofNat k + (3 : Int32)).toInt ∧ (Int32.ofNat k + (3 : Int32)).toInt < (L : Int) := gg 3 (by decide)
  have g4 : 0 ≤ (Int32.ofNat k + (4 : Int32)).toInt ∧ (Int32.ofNat k + (4 : Int32)).toInt < (L : Int) := gg 4 (by decide)
  have g5 : 0 ≤ (Int32.ofNat k + (5 : Int32)).toInt ∧ (Int32.ofNat k + (5 : Int32)).toInt < (L : Int) := gg 5 (by decide)
  have e6 : Int32.ofNat k + (6 : Int32) = Int32.ofNat (k + 6) := i_ad (k := 6)
  have fin : ∀ M', IV x M' → Wp (nm (Int32.ofNat k + (6 : Int32)) (fun y2 => some (.inl (y2, M')))) (fun q => ∃ M', q = (.inl (Int32.ofNat (k + 6), M') : (Int32 × Mem) ⊕ (Int32 × Mem)) ∧ IV x M') := fun M' h => by
    rw [e6]
    exact Wp.nam (Wp.ret ⟨M', rfl, h⟩)
  have main : Wp (l_law L xs x (x + 95) (x + 122) (Int32.ofNat k) M) (fun q => ∃ M', q = (.inl (Int32.ofNat (k + 6), M') : (Int32 × Mem) ⊕ (Int32 × Mem)) ∧ IV x M') := by
    unfold l_law
    refine Wp.ng hexit (Wp.gi g0 (Wp.j1 ?_))
    generalize hs : ((xs (Int32.ofNat k).toNatClampNeg) &&& (31 : Int32)) = s
    refine Wp.br (fun _ => fin M hM) (fun hr => ?_)
    refine Wp.br (fun _ => ?_) (fun n0 => ?_)
    · obtain ⟨v, M1, M2, e1, e2, e3⟩ := law_feed (a := xs (Int32.ofNat k + (1 : Int32)).toNatClampNeg) (b := xs (Int32.ofNat k + (2 : Int32)).toNatClampNeg) (c := xs (Int32.ofNat k + (3 : Int32)).toNatClampNeg) (d := xs (Int32.ofNat k + (4 : Int32)).toNatClampNeg) (e := xs (Int32.ofNat k + (5 : Int32)).toNatClampNeg) hM
      exact Wp.gi g1 (Wp.gi g2 (Wp.gi g3 (Wp.gi g4 (Wp.gi g5 (Wp.cl e1 (Wp.gi g1 (Wp.gi g2 (Wp.gi g3 (Wp.gi g4 (Wp.gi g5 (Wp.cl e2 (Wp.ps rfl (fin M2 e3)))))))))))))
    refine Wp.br (fun _ => ?_) (fun n1 => ?_)
    · obtain ⟨u, M1, v, M2, e1, e2, e3, e4, e5⟩ := law_line (a := xs (Int32.ofNat k + (1 : Int32)).toNatClampNeg) hM
      exact Wp.gi g1 (Wp.cl e1 (Wp.gi g1 (Wp.cl e2 (Wp.cl rfl (Wp.ps e3 (Wp.j0 (Wp.br (fun q => Wp.ps (e5 q) (fin M2 e4)) (fun _ => fin M2 e4))))))))
    refine Wp.br (fun _ => ?_) (fun n2 => ?_)
    · obtain ⟨v, M1, M2, e1, e2, e3⟩ := law_fault  hM
      exact Wp.cl e1 (Wp.cl e2 (Wp.ps rfl (fin M2 e3)))
    refine Wp.br (fun _ => ?_) (fun n3 => ?_)
    · obtain ⟨u, M1, v, M2, e1, e2, e3, e4, e5⟩ := law_count (a := xs (Int32.ofNat k + (1 : Int32)).toNatClampNeg) hM
      exact Wp.gi g1 (Wp.cl e1 (Wp.gi g1 (Wp.cl e2 (Wp.cl rfl (Wp.ps e3 (Wp.j0 (Wp.br (fun q => Wp.ps (e5 q) (fin M2 e4)) (fun _ => fin M2 e4))))))))
    refine Wp.br (fun _ => ?_) (fun n4 => ?_)
    · obtain ⟨u, M1, v, M2, e1, e2, e3, e4, e5⟩ := law_set (a := xs (Int32.ofNat k + (1 : Int32)).toNatClampNeg) hM
      exact Wp.gi g1 (Wp.cl e1 (Wp.gi g1 (Wp.cl e2 (Wp.cl rfl (Wp.ps e3 (Wp.j0 (Wp.br (fun q => Wp.ps (e5 q) (fin M2 e4)) (fun _ => fin M2 e4))))))))
    refine Wp.br (fun _ => ?_) (fun n5 => ?_)
    · obtain ⟨u, M1, v, M2, e1, e2, e3, e4, e5⟩ := law_flying (a := xs (Int32.ofNat k + (1 : Int32)).toNatClampNeg) (b := xs (Int32.ofNat k + (2 : Int32)).toNatClampNeg) hM
      exact Wp.gi g1 (Wp.gi g2 (Wp.cl e1 (Wp.gi g1 (Wp.gi g2 (Wp.cl e2 (Wp.cl rfl (Wp.ps e3 (Wp.j0 (Wp.br (fun q => Wp.ps (e5 q) (fin M2 e4)) (fun _ => fin M2 e4))))))))))
    refine Wp.br (fun _ => ?_) (fun n6 => ?_)
    · obtain ⟨u, M1, v, M2, e1, e2, e3, e4, e5⟩ := law_slot (a := xs (Int32.ofNat k + (1 : Int32)).toNatClampNeg) hM
      exact Wp.gi g1 (Wp.cl e1 (Wp.gi g1 (Wp.cl e2 (Wp.cl rfl (Wp.ps e3 (Wp.j0 (Wp.br (fun q => Wp.ps (e5 q) (fin M2 e4)) (fun _ => fin M2 e4))))))))
    refine Wp.br (fun _ => ?_) (fun n7 => ?_)
    · obtain ⟨u, M1, v, M2, e1, e2, e3, e4, e5⟩ := law_played (a := xs (Int32.ofNat k + (1 : Int32)).toNatClampNeg) (b := xs (Int32.ofNat k + (2 : Int32)).toNatClampNeg) hM
      exact Wp.gi g1 (Wp.gi g2 (Wp.cl e1 (Wp.gi g1 (Wp.gi g2 (Wp.cl e2 (Wp.cl rfl (Wp.ps e3 (Wp.j0 (Wp.br (fun q => Wp.ps (e5 q) (fin M2 e4)) (fun _ => fin M2 e4))))))))))
    refine Wp.br (fun _ => ?_) (fun n8 => ?_)
    · obtain ⟨u, M1, v, M2, e1, e2, e3, e4, e5⟩ := law_spans (a := xs (Int32.ofNat k + (1 : Int32)).toNatClampNeg) (b := xs (Int32.ofNat k + (2 : Int32)).toNatClampNeg) hM
      exact Wp.gi g1 (Wp.gi g2 (Wp.cl e1 (Wp.gi g1 (Wp.gi g2 (Wp.cl e2 (Wp.cl rfl (Wp.ps e3 (Wp.j0 (Wp.br (fun q => Wp.ps (e5 q) (fin M2 e4)) (fun _ => fin M2 e4))))))))))
    refine Wp.br (fun _ => ?_) (fun n9 => ?_)
    · obtain ⟨u, M1, v, M2, e1, e2, e3, e4, e5⟩ := law_sample (a := xs (Int32.ofNat k + (1 : Int32)).toNatClampNeg) hM
      exact Wp.gi g1 (Wp.cl e1 (Wp.gi g1 (Wp.cl e2 (Wp.cl rfl (Wp.ps e3 (Wp.j0 (Wp.br (fun q => Wp.ps (e5 q) (fin M2 e4)) (fun _ => fin M2 e4))))))))
    refine Wp.br (fun _ => ?_) (fun n10 => ?_)
    · obtain ⟨u, M1, v, M2, e1, e2, e3, e4, e5⟩ := law_wander (a := xs (Int32.ofNat k + (1 : Int32)).toNatClampNeg) hM
      exact Wp.gi g1 (Wp.cl e1 (Wp.gi g1 (Wp.cl e2 (Wp.cl rfl (Wp.ps e3 (Wp.j0 (Wp.br (fun q => Wp.ps (e5 q) (fin M2 e4)) (fun _ => fin M2 e4))))))))
    refine Wp.br (fun _ => ?_) (fun n11 => ?_)
    · obtain ⟨v, M1, M2, e1, e2, e3⟩ := law_steps (a := xs (Int32.ofNat k + (1 : Int32)).toNatClampNeg) hM
      exact Wp.gi g1 (Wp.cl e1 (Wp.gi g1 (Wp.cl e2 (Wp.ps rfl (fin M2 e3)))))
    refine Wp.br (fun _ => ?_) (fun n12 => ?_)
    · obtain ⟨v, M1, M2, e1, e2, e3⟩ := law_lose (a := xs (Int32.ofNat k + (1 : Int32)).toNatClampNeg) hM
      exact Wp.gi g1 (Wp.cl e1 (Wp.gi g1 (Wp.cl e2 (Wp.ps rfl (fin M2 e3)))))
    refine Wp.br (fun _ => ?_) (fun n13 => ?_)
    · obtain ⟨v, M1, M2, e1, e2, e3⟩ := law_stall (a := xs (Int32.ofNat k + (1 : Int32)).toNatClampNeg) hM
      exact Wp.gi g1 (Wp.cl e1 (Wp.gi g1 (Wp.cl e2 (Wp.ps rfl (fin M2 e3)))))
    refine Wp.br (fun _ => ?_) (fun n14 => ?_)
    · obtain ⟨u, M1, v, M2, e1, e2, e3, e4, e5⟩ := law_turn (a := xs (Int32.ofNat k + (1 : Int32)).toNatClampNeg) (b := xs (Int32.ofNat k + (2 : Int32)).toNatClampNeg) hM
      exact Wp.gi g1 (Wp.gi g2 (Wp.cl e1 (Wp.gi g1 (Wp.gi g2 (Wp.cl e2 (Wp.cl rfl (Wp.ps e3 (Wp.j0 (Wp.br (fun q => Wp.ps (e5 q) (fin M2 e4)) (fun _ => fin M2 e4))))))))))
    refine Wp.br (fun _ => ?_) (fun n15 => ?_)
    · obtain ⟨v, M1, M2, e1, e2, e3⟩ := law_undo  hM
      exact Wp.cl e1 (Wp.cl e2 (Wp.ps rfl (fin M2 e3)))
    refine Wp.br (fun _ => ?_) (fun n16 => ?_)
    · obtain ⟨u, M1, v, M2, e1, e2, e3, e4, e5⟩ := law_then (a := xs (Int32.ofNat k + (1 : Int32)).toNatClampNeg) (b := xs (Int32.ofNat k + (2 : Int32)).toNatClampNeg) hM
      exact Wp.gi g1 (Wp.gi g2 (Wp.cl e1 (Wp.gi g1 (Wp.gi g2 (Wp.cl e2 (Wp.cl rfl (Wp.ps e3 (Wp.j0 (Wp.br (fun q => Wp.ps (e5 q) (fin M2 e4)) (fun _ => fin M2 e4))))))))))
    refine Wp.br (fun _ => ?_) (fun n17 => ?_)
    · obtain ⟨u, M1, v, M2, e1, e2, e3, e4, e5⟩ := law_when (a := xs (Int32.ofNat k + (1 : Int32)).toNatClampNeg) hM
      exact Wp.gi g1 (Wp.cl e1 (Wp.gi g1 (Wp.cl e2 (Wp.cl rfl (Wp.ps e3 (Wp.j0 (Wp.br (fun q => Wp.ps (e5 q) (fin M2 e4)) (fun _ => fin M2 e4))))))))
    refine Wp.br (fun _ => ?_) (fun n18 => ?_)
    · obtain ⟨v, M1, M2, e1, e2, e3⟩ := law_settles  hM
      exact Wp.cl e1 (Wp.cl e2 (Wp.ps rfl (fin M2 e3)))
    refine Wp.br (fun _ => ?_) (fun n19 => ?_)
    · obtain ⟨u, M1, v, M2, e1, e2, e3, e4, e5⟩ := law_toAim (a := xs (Int32.ofNat k + (1 : Int32)).toNatClampNeg) (b := xs (Int32.ofNat k + (2 : Int32)).toNatClampNeg) hM
      exact Wp.gi g1 (Wp.gi g2 (Wp.cl e1 (Wp.gi g1 (Wp.gi g2 (Wp.cl e2 (Wp.cl rfl (Wp.ps e3 (Wp.j0 (Wp.br (fun q => Wp.ps (e5 q) (fin M2 e4)) (fun _ => fin M2 e4))))))))))
    refine Wp.br (fun _ => ?_) (fun n20 => ?_)
    · obtain ⟨u, M1, v, M2, e1, e2, e3, e4, e5⟩ := law_toGain (a := xs (Int32.ofNat k + (1 : Int32)).toNatClampNeg) (b := xs (Int32.ofNat k + (2 : Int32)).toNatClampNeg) hM
      exact Wp.gi g1 (Wp.gi g2 (Wp.cl e1 (Wp.gi g1 (Wp.gi g2 (Wp.cl e2 (Wp.cl rfl (Wp.ps e3 (Wp.j0 (Wp.br (fun q => Wp.ps (e5 q) (fin M2 e4)) (fun _ => fin M2 e4))))))))))
    refine Wp.br (fun _ => ?_) (fun n21 => ?_)
    · obtain ⟨v, M1, M2, e1, e2, e3⟩ := law_note (a := xs (Int32.ofNat k + (1 : Int32)).toNatClampNeg) (b := xs (Int32.ofNat k + (2 : Int32)).toNatClampNeg) hM
      exact Wp.gi g1 (Wp.gi g2 (Wp.cl e1 (Wp.gi g1 (Wp.gi g2 (Wp.cl e2 (Wp.ps rfl (fin M2 e3)))))))
    refine Wp.br (fun _ => ?_) (fun n22 => ?_)
    · obtain ⟨u, M1, v, M2, e1, e2, e3, e4, e5⟩ := law_other (a := xs (Int32.ofNat k + (1 : Int32)).toNatClampNeg) hM
      exact Wp.gi g1 (Wp.cl e1 (Wp.gi g1 (Wp.cl e2 (Wp.cl rfl (Wp.ps e3 (Wp.j0 (Wp.br (fun q => Wp.ps (e5 q) (fin M2 e4)) (fun _ => fin M2 e4))))))))
    refine Wp.br (fun _ => ?_) (fun n23 => ?_)
    · obtain ⟨u, M1, v, M2, e1, e2, e3, e4, e5⟩ := law_look (a := xs (Int32.ofNat k + (1 : Int32)).toNatClampNeg) hM
      exact Wp.gi g1 (Wp.cl e1 (Wp.gi g1 (Wp.cl e2 (Wp.cl rfl (Wp.ps e3 (Wp.j0 (Wp.br (fun q => Wp.ps (e5 q) (fin M2 e4)) (fun _ => fin M2 e4))))))))
    refine Wp.br (fun _ => ?_) (fun n24 => ?_)
    · obtain ⟨M1, M2, e1, e2, e3⟩ := law_forget  hM
      exact Wp.cl e1 (Wp.cl e2 (fin M2 e3))
    refine Wp.br (fun _ => ?_) (fun n25 => ?_)
    · obtain ⟨u, M1, v, M2, e1, e2, e3, e4, e5⟩ := law_storms (a := xs (Int32.ofNat k + (1 : Int32)).toNatClampNeg) (b := xs (Int32.ofNat k + (2 : Int32)).toNatClampNeg) hM
      exact Wp.gi g1 (Wp.gi g2 (Wp.cl e1 (Wp.gi g1 (Wp.gi g2 (Wp.cl e2 (Wp.cl rfl (Wp.ps e3 (Wp.j0 (Wp.br (fun q => Wp.ps (e5 q) (fin M2 e4)) (fun _ => fin M2 e4))))))))))
    refine Wp.br (fun _ => ?_) (fun n26 => ?_)
    · obtain ⟨u, M1, v, M2, e1, e2, e3, e4, e5⟩ := law_years (a := xs (Int32.ofNat k + (1 : Int32)).toNatClampNeg) (b := xs (Int32.ofNat k + (2 : Int32)).toNatClampNeg) (c := xs (Int32.ofNat k + (3 : Int32)).toNatClampNeg) hM
      exact Wp.gi g1 (Wp.gi g2 (Wp.gi g3 (Wp.cl e1 (Wp.gi g1 (Wp.gi g2 (Wp.gi g3 (Wp.cl e2 (Wp.cl rfl (Wp.ps e3 (Wp.j0 (Wp.br (fun q => Wp.ps (e5 q) (fin M2 e4)) (fun _ => fin M2 e4))))))))))))
    refine Wp.br (fun _ => ?_) (fun n27 => ?_)
    · obtain ⟨M1, M2, e1, e2, e3⟩ := law_image  hM
      exact Wp.cl e1 (Wp.cl e2 (fin M2 e3))
    refine Wp.br (fun _ => ?_) (fun n28 => ?_)
    · obtain ⟨v, M1, M2, e1, e2, e3⟩ := law_restore  hM
      exact Wp.cl e1 (Wp.cl e2 (Wp.ps rfl (fin M2 e3)))
    · exfalso
      have hv : ∀ v : Int32, ¬ s = v → ¬ s.toInt = v.toInt := fun v h e => h (Int32.toInt_inj.mp e)
      have m0 : ¬ s.toInt = 0 := hv 0 n0
      have m1 : ¬ s.toInt = 1 := hv 1 n1
      have m2 : ¬ s.toInt = 2 := hv 2 n2
      have m3 : ¬ s.toInt = 3 := hv 3 n3
      have m4 : ¬ s.toInt = 4 := hv 4 n4
      have m5 : ¬ s.toInt = 5 := hv 5 n5
      have m6 : ¬ s.toInt = 6 := hv 6 n6
      have m7 : ¬ s.toInt = 7 := hv 7 n7
      have m8 : ¬ s.toInt = 8 := hv 8 n8
      have m9 : ¬ s.toInt = 9 := hv 9 n9
      have m10 : ¬ s.toInt = 10 := hv 10 n10
      have m11 : ¬ s.toInt = 11 := hv 11 n11
      have m12 : ¬ s.toInt = 12 := hv 12 n12
      have m13 : ¬ s.toInt = 13 := hv 13 n13
      have m14 : ¬ s.toInt = 14 := hv 14 n14
      have m15 : ¬ s.toInt = 15 := hv 15 n15
      have m16 : ¬ s.toInt = 16 := hv 16 n16
      have m17 : ¬ s.toInt = 17 := hv 17 n17
      have m18 : ¬ s.toInt = 18 := hv 18 n18
      have m19 : ¬ s.toInt = 19 := hv 19 n19
      have m20 : ¬ s.toInt = 20 := hv 20 n20
      have m21 : ¬ s.toInt = 21 := hv 21 n21
      have m22 : ¬ s.toInt = 22 := hv 22 n22
      have m23 : ¬ s.toInt = 23 := hv 23 n23
      have m24 : ¬ s.toInt = 24 := hv 24 n24
      have m25 : ¬ s.toInt = 25 := hv 25 n25
      have m26 : ¬ s.toInt = 26 := hv 26 n26
      have m27 : ¬ s.toInt = 27 := hv 27 n27
      have m28 : ¬ s.toInt = 28 := hv 28 n28
      omega
  obtain ⟨q, h1, M', h2, h3⟩ := main
  subst h2
  exact ⟨M', h1, h3⟩
