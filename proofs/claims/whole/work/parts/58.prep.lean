/-- the rows, as values -/
def oVw (σ : ox_S) (B r : Nat) : Nat → Nat → Bool := oBr σ (B + r)
theorem oIR_ext {n R : Nat} {M : oMo} {gv v v' : Nat → Nat → Nat → Bool} {W : Nat → Prop} (hM : M.ok) (hR : R ≤ M.R) (hcl : ∀ r, 12 ≤ r → r < R → W r → W (M.lf r) ∧ W (M.rt r)) (hv : ∀ r, r < R → W r → ∀ a b, a < n → b < n → v' r a b = v r a b) (h : oIR n M gv R W v) : oIR n M gv R W v' := fun r hr hw a b ha hb => by
  obtain ⟨h1, h2⟩ := h r hr hw a b ha hb
  refine ⟨fun q => by rw [hv r hr hw a b ha hb]; exact h1 q, fun q => ?_⟩
  obtain ⟨m1, m2, m3⟩ := hM.2.2.2.1 r q (by omega)
  obtain ⟨c1, c2⟩ := hcl r q hr hw
  rw [hv r hr hw a b ha hb, h2 q]
  exact oHw_ext (fun x y hx hy => (hv _ (by omega) c1 x y hx hy).symm) (fun x y hx hy => (hv _ (by omega) c2 x y hx hy).symm) ha hb
/-- what no choice changes -/
def oSf (M : oMo) : Nat → Nat → Bool
  | 0, _ => false
  | k + 1, r => if r < 12 then decide (r < 1 ∨ 4 < r) else oSf M k (M.lf r) && oSf M k (M.rt r)
def oSd (M : oMo) (r : Nat) : Bool := oSf M 41 r
theorem oSf_st {M : oMo} (hM : M.ok) : ∀ r, r < M.R → ∀ k k', r < k → r < k' → oSf M k r = oSf M k' r := by
  intro r
  induction r using Nat.strongRecOn with
  | ind r ih =>
    intro hr k k' hk hk'
    obtain ⟨k, rfl⟩ : ∃ j, k = j + 1 := ⟨k - 1, by omega⟩
    obtain ⟨k', rfl⟩ : ∃ j, k' = j + 1 := ⟨k' - 1, by omega⟩
    simp only [oSf]
    by_cases q : r < 12
    · rw [if_pos q, if_pos q]
    · rw [if_neg q, if_neg q]
      obtain ⟨m1, m2, m3⟩ := hM.2.2.2.1 r (by omega) hr
      rw [ih (M.lf r) m2 (by omega) k k' (by omega) (by omega), ih (M.rt r) m3 (by omega) k k' (by omega) (by omega)]
theorem oSd_lo {M : oMo} {r : Nat} (h : r < 12) : oSd M r = decide (r < 1 ∨ 4 < r) := by
  show (if r < 12 then decide (r < 1 ∨ 4 < r) else _) = _
  rw [if_pos h]
theorem oSd_hi {M : oMo} {r : Nat} (hM : M.ok) (h : 12 ≤ r) (hr : r < M.R) : oSd M r = (oSd M (M.lf r) && oSd M (M.rt r)) := by
  obtain ⟨m1, m2, m3⟩ := hM.2.2.2.1 r h hr
  have hR := hM.2.1
  show (if r < 12 then _ else oSf M 40 (M.lf r) && oSf M 40 (M.rt r)) = (oSf M 41 (M.lf r) && oSf M 41 (M.rt r))
  rw [if_neg (by omega), oSf_st hM (M.lf r) (by omega) 40 41 (by omega) (by omega), oSf_st hM (M.rt r) (by omega) 40 41 (by omega) (by omega)]
/-- what is planned: wanted, made, not steady -/
def oPf (M : oMo) (W : Nat → Bool) (r : Nat) : Bool := decide (12 ≤ r) && (W r && !(oSd M r))
theorem oPf_iff {M : oMo} {W : Nat → Bool} {r : Nat} : oPf M W r = true ↔ 12 ≤ r ∧ W r = true ∧ oSd M r = false := by
  unfold oPf
  simp only [Bool.and_eq_true, decide_eq_true_eq, Bool.not_eq_true']
/-- W holds what rules need -/
def oWt (M : oMo) (W : Nat → Bool) : Prop := (∀ i, i < M.Q → W (M.rl i) = true) ∧ ∀ r, 12 ≤ r → r < M.R → W r = true → W (M.lf r) = true ∧ W (M.rt r) = true
theorem oGv_st {P : oPr} {σ τ : ox_S} {r a b : Nat} (h : r = 0 ∨ 5 ≤ r) : oGv P σ r a b = oGv P τ r a b := by
  unfold oGv
  split <;> first | omega | rfl
/-- an execution that is prepared: X its object, B its rows, Pl its plan -/
def oPp (σ : ox_S) (X B Pl : Nat) (P : oPr) (M : oMo) (W : Nat → Bool) : Prop :=
  oWt M W ∧ σ X 0 = nI P.n ∧ σ X 1 = nI M.R ∧ σ X 2 = nI (ocR P P.n) ∧ σ X 12 = nI (oCn (oPf M W) M.R) ∧ (∀ j, j < oCn (oPf M W) M.R → σ Pl j = nI (oKt (oPf M W) M.R j)) ∧ oIR P.n M (oGv P (oXs P 0)) M.R (fun r => W r = true ∧ oSd M r = true) (oVw σ B)
theorem oPf_dn {M : oMo} {W : Nat → Bool} (hM : M.ok) (hW : oWt M W) {r : Nat} (h12 : 12 ≤ r) (hr : r < M.R) (hw : W r = true) (hs : oSd M r = true) : (W (M.lf r) = true ∧ oSd M (M.lf r) = true) ∧ (W (M.rt r) = true ∧ oSd M (M.rt r) = true) := by
  obtain ⟨c1, c2⟩ := hW.2 r h12 hr hw
  rw [oSd_hi hM h12 hr, Bool.and_eq_true] at hs
  exact ⟨⟨c1, hs.1⟩, c2, hs.2⟩
