/-- a method's point comes to its end -/
def oz_R (L k mi pc : Nat) (ls : List (Option Value)) (st : List Value) (σ : ox_S) (c w : Nat) (out : ox_O × ox_S × Nat × Nat) : Prop := ∃ n, ∀ m, n ≤ m → ox_x L m k mi pc ls st σ c w = some out
section OXR
variable {L k mi pc pc' : Nat} {ls ls' : List (Option Value)} {st st' : List Value} {σ σ' : ox_S} {c w : Nat} {out : ox_O × ox_S × Nat × Nat} {e : Instr × Nat × Nat × Nat}
theorem ox_r1 (hI : ox_I mi pc = some e) (hs : ox_s1 L pc e ls st σ = some (pc', ls', st', σ')) (K : oz_R L k mi pc' ls' st' σ' c w out) : oz_R L k mi pc ls st σ c w out := by
  obtain ⟨n, hn⟩ := K
  refine ⟨n + 1, fun m hm => ?_⟩
  obtain ⟨m', rfl⟩ : ∃ m', m = m' + 1 := ⟨m - 1, by omega⟩
  show ox_F L (ox_x L m') k mi pc ls st σ c w = _
  rw [ox_F_s hI hs]
  exact hn m' (by omega)
/-- n simple instructions -/
def ox_sN (L mi : Nat) : Nat → ox_P → Option ox_P
  | 0, s => some s
  | n + 1, (pc, ls, st, σ) => match ox_I mi pc with
    | none => none
    | some e => match ox_s1 L pc e ls st σ with
      | none => none
      | some s' => ox_sN L mi n s'
theorem ox_rN (n : Nat) (h : ox_sN L mi n (pc, ls, st, σ) = some (pc', ls', st', σ')) (K : oz_R L k mi pc' ls' st' σ' c w out) : oz_R L k mi pc ls st σ c w out := by
  induction n generalizing pc ls st σ with
  | zero =>
    cases h
    exact K
  | succ n ih =>
    rw [ox_sN] at h
    cases hI : ox_I mi pc with
    | none => rw [hI] at h; cases h
    | some e =>
      rw [hI] at h
      simp only at h
      cases hs : ox_s1 L pc e ls st σ with
      | none => rw [hs] at h; cases h
      | some q =>
        rw [hs] at h
        obtain ⟨a, b, d, f⟩ := q
        exact ox_r1 hI hs (ih h)
/-- a branch, as a simple instruction leaves it -/
theorem ox_rIf {C : Prop} [Decidable C] {a b : Nat} (h1 : C → oz_R L k mi a ls st σ c w out) (h2 : ¬ C → oz_R L k mi b ls st σ c w out) : oz_R L k mi (if C then a else b) ls st σ c w out := by
  by_cases h : C
  · rw [if_pos h]; exact h1 h
  · rw [if_neg h]; exact h2 h
theorem ox_rRet {v : Int32} {ty : FieldType} (hI : ox_I mi pc = some (.ireturn, 1, 0, 0)) (ht : ox_rt mi = some ty) (hv : narrow ty (.int v) = .int v) : oz_R L k mi pc ls [.int v] σ c w (.inl (some (.int v)), σ, c, w) := by
  refine ⟨1, fun m hm => ?_⟩
  obtain ⟨m', rfl⟩ : ∃ m', m = m' + 1 := ⟨m - 1, by omega⟩
  show ox_F L (ox_x L m') k mi pc ls _ σ c w = _
  unfold ox_F
  rw [hI]
  simp only [ox_s1, ht]
  rw [if_pos hv]
theorem ox_rRetv (hI : ox_I mi pc = some (.return_, 1, 0, 0)) (ht : ox_rt mi = none) : oz_R L k mi pc ls [] σ c w (.inl none, σ, c, w) := by
  refine ⟨1, fun m hm => ?_⟩
  obtain ⟨m', rfl⟩ : ∃ m', m = m' + 1 := ⟨m - 1, by omega⟩
  show ox_F L (ox_x L m') k mi pc ls _ σ c w = _
  unfold ox_F
  rw [hI]
  simp only [ox_s1, ht]
end OXR
