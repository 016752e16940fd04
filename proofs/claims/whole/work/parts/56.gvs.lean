theorem oGv_1 {P : oPr} {x a b : Nat} : oGv P (oXs P x) 1 a b = true ↔ P.kd b = 0 ∧ oSc P x (ocR P b) = nI a := by
  show (decide (P.kd b = 0) && decide (oSc P x (ocR P b) = nI a)) = true ↔ _
  rw [Bool.and_eq_true, decide_eq_true_eq, decide_eq_true_eq]
theorem oGv_4 {P : oPr} {x a b : Nat} : oGv P (oXs P x) 4 a b = true ↔ (P.kd b = 0 ∧ oSc P x (ocR P b) = nI a) ∧ P.th a ≠ P.th b := by
  show ((decide (P.kd b = 0) && decide (oSc P x (ocR P b) = nI a)) && decide (P.th a ≠ P.th b)) = true ↔ _
  rw [Bool.and_eq_true, Bool.and_eq_true, decide_eq_true_eq, decide_eq_true_eq, decide_eq_true_eq]
theorem oGv_2 {P : oPr} {x a b : Nat} : oGv P (oXs P x) 2 a b = true ↔ P.kd a = 1 ∧ P.kd b = 1 ∧ P.pl a = P.pl b ∧ nI (oRk P x a) < nI (oRk P x b) := by
  show (decide (P.kd a = 1) && decide (P.kd b = 1) && (decide (P.kd a ≠ 2) && decide (P.kd b ≠ 2) && decide (P.pl a = P.pl b)) && decide (nI (oRk P x a) < nI (oRk P x b))) = true ↔ _
  simp only [Bool.and_eq_true, decide_eq_true_eq]
  constructor
  · rintro ⟨⟨⟨h1, h2⟩, ⟨-, -⟩, h3⟩, h4⟩
    exact ⟨h1, h2, h3, h4⟩
  · rintro ⟨h1, h2, h3, h4⟩
    exact ⟨⟨⟨h1, h2⟩, ⟨by omega, by omega⟩, h3⟩, h4⟩
theorem oGv_3 {P : oPr} {x a b : Nat} : oGv P (oXs P x) 3 a b = true ↔ P.kd a = 0 ∧ P.kd b = 1 ∧ P.pl a = P.pl b ∧ (oSc P x (ocR P a) < 0 ∨ nI (oRk P x (oSc P x (ocR P a)).toNatClampNeg) < nI (oRk P x b)) := by
  show (decide (P.kd a = 0) && decide (P.kd b = 1) && (decide (P.kd a ≠ 2) && decide (P.kd b ≠ 2) && decide (P.pl a = P.pl b)) && (decide (oSc P x (ocR P a) < 0) || decide (nI (oRk P x (oSc P x (ocR P a)).toNatClampNeg) < nI (oRk P x b)))) = true ↔ _
  simp only [Bool.and_eq_true, Bool.or_eq_true, decide_eq_true_eq]
  constructor
  · rintro ⟨⟨⟨h1, h2⟩, ⟨-, -⟩, h3⟩, h4⟩
    exact ⟨h1, h2, h3, h4⟩
  · rintro ⟨h1, h2, h3, h4⟩
    exact ⟨⟨⟨h1, h2⟩, ⟨by omega, by omega⟩, h3⟩, h4⟩
/-- the order of writes, by picks -/
theorem oGv_2p {P : oPr} {x a b : Nat} (hP : P.ok) (ha : a < P.n) (hb : b < P.n) : (∃ p j j', p < 4 ∧ j < j' ∧ j' < oW P p ∧ a = oOd P x p j ∧ b = oOd P x p j') ↔ oGv P (oXs P x) 2 a b = true := by
  have hw : ∀ p, oW P p ≤ 12 := fun p => Nat.le_trans (ocW_le P p P.n) hP.2.1
  rw [oGv_2]
  constructor
  · rintro ⟨p, j, j', h1, h2, h3, rfl, rfl⟩
    have := hw p
    obtain ⟨-, a1, a2⟩ := oOd_w (P := P) (x := x) (p := p) (i := j) (by omega)
    obtain ⟨-, b1, b2⟩ := oOd_w (P := P) (x := x) h3
    refine ⟨a1, b1, by rw [a2, b2], ?_⟩
    rw [oRk_of (by omega), oRk_of h3]
    exact nI_lt h2 (by omega)
  · rintro ⟨h1, h2, h3, h4⟩
    obtain ⟨j, j1, j2⟩ := oOd_on (x := x) ha h1 rfl
    obtain ⟨j', k1, k2⟩ := oOd_on (x := x) hb h2 rfl
    have hp := (hP.2.2 a ha).2.2 (by omega)
    have := hw (P.pl a)
    have := hw (P.pl b)
    have e1 := oRk_of (x := x) j1
    have e2 := oRk_of (x := x) k1
    rw [j2] at e1
    rw [k2] at e2
    rw [e1, e2] at h4
    exact ⟨P.pl a, j, j', hp, (nI_ltI (by omega) (by omega)).mp h4, by rw [h3]; exact k1, j2.symm, by rw [h3]; exact k2.symm⟩
