/-- as oT, with the cells and slots that are made -/
def oU (L k mi pc : Nat) (ls : List (Option Value)) (st : List Value) (σ : ox_S) (c w : Nat) (Post : ox_O → ox_S → Nat → Nat → Prop) : Prop :=
  ∃ o σ' c' w', Post o σ' c' w' ∧ oz_R L k mi pc ls st σ c w (o, σ', c', w')
section OZA
variable {L k mi pc pc' i a b o c w : Nat} {ls ls' : List (Option Value)} {st st' as r : List Value} {σ σ' : ox_S} {Post PostC' : ox_O → ox_S → Nat → Nat → Prop} {PostC : ox_O → ox_S → Prop} {x y n : Int32}
theorem oU_N (n : Nat) (h : ox_sN L mi n (pc, ls, st, σ) = some (pc', ls', st', σ')) (K : oU L k mi pc' ls' st' σ' c w Post) : oU L k mi pc ls st σ c w Post := by
  obtain ⟨o, s2, c2, w2, hp, hr⟩ := K
  exact ⟨o, s2, c2, w2, hp, ox_rN n h hr⟩
theorem oU_If {C : Prop} [Decidable C] {a b : Nat} (h1 : C → oU L k mi a ls st σ c w Post) (h2 : ¬ C → oU L k mi b ls st σ c w Post) : oU L k mi (if C then a else b) ls st σ c w Post := by
  by_cases h : C
  · rw [if_pos h]; exact h1 h
  · rw [if_neg h]; exact h2 h
theorem oU_Ret {v : Int32} {ty : FieldType} (hI : ox_I mi pc = some (.ireturn, 1, 0, 0)) (ht : ox_rt mi = some ty) (hv : narrow ty (.int v) = .int v) (hp : Post (.inl (some (.int v))) σ c w) : oU L k mi pc ls [.int v] σ c w Post :=
  ⟨_, _, _, _, hp, ox_rRet hI ht hv⟩
theorem oU_I (hI : ox_I mi pc = some (.iaload, 1, a, b)) (hk : (ox_k o = 10 ∧ o < 174) ∨ ox_k o = 14) (hn : ¬ (n < 0 ∨ ox_n L o ≤ n.toNatClampNeg)) (K : oU L k mi (pc + 1) ls (.int (σ o n.toNatClampNeg) :: r) σ c w Post) : oU L k mi pc ls (.int n :: .ref o :: r) σ c w Post := by
  obtain ⟨o2, s2, c2, w2, hp2, hr2⟩ := K
  exact ⟨o2, s2, c2, w2, hp2, ox_rI hI hk hn hr2⟩
theorem oU_Ls {v : Int64} (hI : ox_I mi pc = some (.lastore, 1, a, b)) (hk : ox_k o = 13 ∧ o < 174) (hv : v.toInt32.toInt64 = v) (hn : ¬ (n < 0 ∨ ox_n L o ≤ n.toNatClampNeg)) (K : oU L k mi (pc + 1) ls r (ox_up σ o n.toNatClampNeg v.toInt32) c w Post) : oU L k mi pc ls (.long v :: .int n :: .ref o :: r) σ c w Post := by
  refine oU_N 1 ?_ K
  simp only [ox_sN, hI, ox_s1, if_pos (show ((ox_k o = 13 ∧ o < 174) ∧ v.toInt32.toInt64 = v) ∧ ¬ (n < 0 ∨ ox_n L o ≤ n.toNatClampNeg) from ⟨⟨hk, hv⟩, hn⟩)]
theorem oU_Ll (hI : ox_I mi pc = some (.laload, 1, a, b)) (hk : ox_k o = 13 ∧ o < 174) (hn : ¬ (n < 0 ∨ ox_n L o ≤ n.toNatClampNeg)) (K : oU L k mi (pc + 1) ls (.long (σ o n.toNatClampNeg).toInt64 :: r) σ c w Post) : oU L k mi pc ls (.int n :: .ref o :: r) σ c w Post := by
  refine oU_N 1 ?_ K
  simp only [ox_sN, hI, ox_s1, ox_a, if_pos (show (ox_k o = 13 ∧ o < 174) ∧ ¬ (n < 0 ∨ ox_n L o ≤ n.toNatClampNeg) from ⟨hk, hn⟩)]
/-- a call whose throw is caught -/
theorem oU_C (hI : ox_I mi pc = some (.invokevirtual i, 3, a, b)) (hst : (st.take b).reverse = .ref o :: as) (hb : ox_gs a b st = true) (hko : (Nat.beq (ox_k o) (ox_ow a) && Nat.blt o 174) = true) (hk : 1 ≤ k) (hk8 : k ≤ 8)
    (hcall : oT L k a 0 (((Value.ref o :: as).map some) ++ List.replicate (ox_mL a - (as.length + 1)) none) [] σ PostC) (K1 : ∀ v σ', PostC (.inl v) σ' → oU L (k + 1) mi (pc + 3) ls (v.toList ++ st.drop b) σ' 0 0 Post) (K2 : ∀ x σ', PostC (.inr x) σ' → ∃ h j, ox_hd mi pc x = some (h, j) ∧ (ox_nl ls j && Nat.blt j ls.length) = true ∧ oU L (k + 1) mi h (ls.set j none) [] σ' 1 6 Post) : oU L (k + 1) mi pc ls st σ 0 0 Post := by
  obtain ⟨o1, s1, hp1, n1, h1⟩ := hcall
  cases o1 with
  | inl v =>
    obtain ⟨o2, s2, c2, w2, hp2, hr2⟩ := K1 v s1 hp1
    exact ⟨o2, s2, c2, w2, hp2, ox_rV hI hst hb hko hk hk8 ⟨n1, h1⟩ hr2⟩
  | inr x =>
    obtain ⟨h, j, g1, g2, o2, s2, c2, w2, hp2, n2, h2⟩ := K2 x s1 hp1
    refine ⟨o2, s2, c2, w2, hp2, max n1 n2 + 1, fun m hm => ?_⟩
    obtain ⟨m', rfl⟩ : ∃ m', m = m' + 1 := ⟨m - 1, by omega⟩
    show ox_F L (ox_x L m') (k + 1) mi pc ls st σ 0 0 = _
    unfold ox_F
    rw [hI]
    simp only [ox_s1]
    rw [ox_gsd hb hk hk8, hst]
    simp only [cond_true, hko]
    rw [h1 m' (by omega)]
    simp only [g1, g2, cond_true]
    exact h2 m' (by omega)
theorem ox_gsl {c w a b : Nat} {st : List Value} (h : ox_gs a b st = true) (hc : c ≤ 600000) (hw : w ≤ 7000000) : ox_gd 9 c w a b st = true := by
  simp only [ox_gs, Bool.and_eq_true] at h
  obtain ⟨⟨⟨⟨g0, g1⟩, g2⟩, g3⟩, g4⟩ := h
  simp only [ox_gd, Bool.and_eq_true]
  refine ⟨⟨⟨⟨⟨⟨⟨g0, rfl⟩, g1⟩, g2⟩, g3⟩, ?_⟩, ?_⟩, g4⟩
  · exact Nat.ble_eq_true_of_le (show c + 4 ≤ 601024 by omega)
  · exact Nat.ble_eq_true_of_le (show w + 64 ≤ 7293034 by omega)
/-- the law's calls: of a helper, of a method that doesn't throw -/
theorem oU_S (hI : ox_I mi pc = some (.invokestatic i, 3, a, b)) (hb : ox_gs a b st = true) (ha : Nat.beq a 901 = false) (hc : c ≤ 600000) (hw : w ≤ 7000000)
    (hcall : oU L 9 a 0 (((st.take b).reverse.map some) ++ List.replicate (ox_mL a - b) none) [] σ 0 0 PostC') (hno : ∀ x σ' c' w', ¬ PostC' (.inr x) σ' c' w') (K : ∀ v σ' c' w', PostC' (.inl v) σ' c' w' → oU L 10 mi (pc + 3) ls (v.toList ++ st.drop b) σ' (c + c') (w + w') Post) : oU L 10 mi pc ls st σ c w Post := by
  obtain ⟨o1, s1, c1, w1, hp1, n1, h1⟩ := hcall
  cases o1 with
  | inr x => exact absurd hp1 (hno x s1 c1 w1)
  | inl v =>
    obtain ⟨o2, s2, c2, w2, hp2, n2, h2⟩ := K v s1 c1 w1 hp1
    refine ⟨o2, s2, c2, w2, hp2, max n1 n2 + 1, fun m hm => ?_⟩
    obtain ⟨m', rfl⟩ : ∃ m', m = m' + 1 := ⟨m - 1, by omega⟩
    show ox_F L (ox_x L m') 10 mi pc ls st σ c w = _
    unfold ox_F
    rw [hI]
    simp only [ox_s1, ha, cond_false]
    rw [ox_gsl hb hc hw]
    simp only [cond_true]
    rw [h1 m' (by omega)]
    exact h2 m' (by omega)
theorem oU_V (hI : ox_I mi pc = some (.invokevirtual i, 3, a, b)) (hst : (st.take b).reverse = .ref o :: as) (hb : ox_gs a b st = true) (hko : (Nat.beq (ox_k o) (ox_ow a) && Nat.blt o 174) = true) (hc : c ≤ 600000) (hw : w ≤ 7000000)
    (hcall : oT L 9 a 0 (((Value.ref o :: as).map some) ++ List.replicate (ox_mL a - (as.length + 1)) none) [] σ PostC) (hno : ∀ x σ', ¬ PostC (.inr x) σ') (K : ∀ v σ', PostC (.inl v) σ' → oU L 10 mi (pc + 3) ls (v.toList ++ st.drop b) σ' c w Post) : oU L 10 mi pc ls st σ c w Post := by
  obtain ⟨o1, s1, hp1, n1, h1⟩ := hcall
  cases o1 with
  | inr x => exact absurd hp1 (hno x s1)
  | inl v =>
    obtain ⟨o2, s2, c2, w2, hp2, n2, h2⟩ := K v s1 hp1
    refine ⟨o2, s2, c2, w2, hp2, max n1 n2 + 1, fun m hm => ?_⟩
    obtain ⟨m', rfl⟩ : ∃ m', m = m' + 1 := ⟨m - 1, by omega⟩
    show ox_F L (ox_x L m') 10 mi pc ls st σ c w = _
    unfold ox_F
    rw [hI]
    simp only [ox_s1]
    rw [ox_gsl hb hc hw, hst]
    simp only [cond_true, hko]
    rw [h1 m' (by omega)]
    exact h2 m' (by omega)
end OZA
/-- what a helper leaves: y1, y2 the codes of what it catches -/
def oHp (PostC : ox_O → ox_S → Prop) (cd : Nat → Int32) (o : ox_O) (σ' : ox_S) (c w : Nat) : Prop :=
  c ≤ 1 ∧ w ≤ 6 ∧ ((∃ v σ1, PostC (.inl (some (.int v))) σ1 ∧ o = .inl (some (.int 0)) ∧ σ' = ox_up σ1 8 0 v) ∨ ∃ x σ1, PostC (.inr x) σ1 ∧ o = .inl (some (.int (cd x))) ∧ σ' = σ1)
theorem ox_ll (v : Int32) : v.toInt64.toInt32.toInt64 = v.toInt64 := by rw [Int32.toInt32_toInt64]
