/-- the ints at the start -/
def oc_z (xs : Nat → Int32) : ox_S := fun o k => bif Nat.beq o 174 then xs k else bif (Nat.beq o 2 && Nat.beq k 0) || (Nat.beq o 7 && Nat.beq k 8) then 12 else 0
theorem oc_z0 {xs : Nat → Int32} {o k : Nat} (h1 : o ≠ 174) (h2 : o = 2 → k ≠ 0) (h3 : o = 7 → k ≠ 8) : oc_z xs o k = 0 := by
  have e1 : Nat.beq o 174 = false := by cases e : Nat.beq o 174 with | false => rfl | true => exact absurd (Nat.eq_of_beq_eq_true e) h1
  have e2 : (Nat.beq o 2 && Nat.beq k 0) = false := by
    cases e : Nat.beq o 2 with
    | false => rfl
    | true =>
      cases e9 : Nat.beq k 0 with
      | false => rfl
      | true => exact absurd (Nat.eq_of_beq_eq_true e9) (h2 (Nat.eq_of_beq_eq_true e))
  have e3 : (Nat.beq o 7 && Nat.beq k 8) = false := by
    cases e : Nat.beq o 7 with
    | false => rfl
    | true =>
      cases e9 : Nat.beq k 8 with
      | false => rfl
      | true => exact absurd (Nat.eq_of_beq_eq_true e9) (h3 (Nat.eq_of_beq_eq_true e))
  simp only [oc_z, e1, e2, e3, cond_false, Bool.or_false]
/-- a fresh object and a fresh reference agree -/
theorem oc_first (xs : Nat → Int32) : oKk (oc_z xs) := by
  refine ⟨(0, 0, fun _ => 0, fun _ => 0, fun _ => 0, fun _ => 0, fun _ _ => false), (12, 0, fun _ => 0, fun _ => 0, fun _ => 0, fun _ => 0), (0, fun _ _ => 0, fun _ => 0, fun _ => 0, 0, 0, 0), (0, 0, 0, fun _ => 0, fun _ => 0, fun _ _ => 0, fun _ _ _ => false, 0, fun _ => 0), ⟨?_, ?_, ?_, ?_⟩, ?_, ?_, ?_, ?_, ?_, ?_⟩
  · refine ⟨⟨by decide, by decide, fun e h => absurd h (Nat.not_lt_zero e)⟩, rfl, rfl, rfl, fun e h => absurd h (Nat.not_lt_zero e), fun i h => absurd h (Nat.not_lt_zero i), fun p _ => rfl, fun p _ b hb => ?_, fun p _ j h => absurd h (Nat.not_lt_zero j)⟩
    show oBit 0 b = (decide (b < 0) && _)
    rw [decide_eq_false (Nat.not_lt_zero b), Bool.false_and]
    match b, hb with
    | 0, _ => rfl
    | 1, _ => rfl
    | 2, _ => rfl
    | 3, _ => rfl
    | 4, _ => rfl
    | 5, _ => rfl
    | 6, _ => rfl
    | 7, _ => rfl
    | 8, _ => rfl
    | 9, _ => rfl
    | 10, _ => rfl
    | 11, _ => rfl
    | b + 12, h => exact absurd h (by omega)
  · exact ⟨⟨by decide, by decide, by decide, fun r h1 h2 => absurd h2 (Nat.not_lt.mpr h1), fun i h => absurd h (Nat.not_lt_zero i)⟩, rfl, rfl, fun r h1 h2 => absurd h2 (Nat.not_lt.mpr h1), fun i h => absurd h (Nat.not_lt_zero i)⟩
  · exact ⟨by decide, by decide, rfl, rfl, rfl, rfl, fun _ => 0, fun _ => 0, fun _ _ => 0, fun i h => absurd h (Nat.not_lt_zero i), fun i h => absurd h (Nat.not_lt_zero i)⟩
  · exact ⟨⟨by decide, by decide, by decide, fun _ _ => Nat.zero_le _, by decide⟩, rfl, rfl, rfl, fun i h => absurd h (Nat.not_lt_zero i), fun p _ => rfl, fun p i _ h => absurd h (Nat.not_lt_zero i), fun r a b h => absurd h (Nat.not_lt_zero r), rfl, fun i h => absurd h (Nat.not_lt_zero i)⟩
  · exact ⟨⟨by decide, by decide, fun e h => absurd h (Nat.not_lt_zero e)⟩, rfl, rfl, fun e h => absurd h (Nat.not_lt_zero e)⟩
  · exact ⟨⟨by decide, by decide, by decide, fun r h1 h2 => absurd h2 (Nat.not_lt.mpr h1), fun i h => absurd h (Nat.not_lt_zero i)⟩, rfl, rfl, fun r h1 h2 => absurd h2 (Nat.not_lt.mpr h1), fun i h => absurd h (Nat.not_lt_zero i)⟩
  · exact fun q _ => Or.inl (rfl)
  · exact fun q _ => Or.inl (rfl)
  · exact ⟨by decide, by decide, rfl, rfl, rfl, rfl, fun _ => 0, fun k h => absurd h (Nat.not_lt_zero k)⟩
  · exact ⟨⟨by decide, by decide, by decide, fun _ _ => Nat.zero_le _, by decide⟩, rfl, rfl, rfl, fun i h => absurd h (Nat.not_lt_zero i), fun p _ => rfl, fun p i _ h => absurd h (Nat.not_lt_zero i), fun r a b h => absurd h (Nat.not_lt_zero r), rfl, fun i h => absurd h (Nat.not_lt_zero i)⟩
