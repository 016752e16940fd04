/-- what an execution chose: B its picks, B + 1 its sources, B + 2 its counts, B + 4 + p its orders -/
def oXk (σ : ox_S) (B : Nat) (P : oPr) (x : Nat) : Prop := (∀ i, i < ocR P P.n → σ B i = nI (oPk P x i) ∧ σ (B + 1) i = oSc P x i) ∧ (∀ p, p < 4 → σ (B + 2) p = nI (oW P p)) ∧ ∀ p, p < 4 → ∀ j, j < oW P p → σ (B + 4 + p) j = nI (oOd P x p j)
