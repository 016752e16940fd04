/-- the code of what the reference says that it throws -/
def oth (f s : Int32) : Int32 := if f = 0 then (if s = 0 then 0 else 2) else 1
theorem ot_throwing {L k : Nat} {f s : Int32} {σ : ox_S} : oT L k 52 0 [some (.ref 7), some (.int f), some (.int s)] [] σ (fun o σ' => o = .inl (some (.int (if oth f s = 0 then 0 else 1))) ∧ σ' = ox_up σ 7 0 (oth f s)) := by
  refine oT_N 3 rfl (oT_If (fun h0 => ?_) (fun h0 => ?_))
  · refine oT_N 2 rfl (oT_If (fun h1 => ?_) (fun h1 => ?_))
    · refine oT_N 5 rfl (oT_If (fun h2 => ?_) (fun h2 => ?_))
      · refine oT_N 1 rfl (oT_Ret rfl rfl rfl ?_)
        simp [oth, h0, h1]
      · exact absurd (show Int32.ofInt 0 ≤ 0 by decide) h2
    · refine oT_N 6 rfl (oT_If (fun h2 => ?_) (fun h2 => ?_))
      · exact absurd h2 (show ¬ Int32.ofInt 2 ≤ 0 by decide)
      · refine oT_N 2 rfl (oT_Ret rfl rfl rfl ?_)
        simp [oth, h0, h1]
  · refine oT_N 6 rfl (oT_If (fun h1 => ?_) (fun h1 => ?_))
    · exact absurd h1 (show ¬ Int32.ofInt 1 ≤ 0 by decide)
    · refine oT_N 2 rfl (oT_Ret rfl rfl rfl ?_)
      simp [oth, h0]
theorem ot_isOf {L k : Nat} {i n : Int32} {σ : ox_S} : oT L k 57 0 [some (.int i), some (.int n)] [] σ (fun o σ' => o = .inl (some (.int (if 0 ≤ i ∧ i < n then 1 else 0))) ∧ σ' = σ) := by
  refine oT_N 2 rfl (oT_If (fun h => ?_) (fun h => ?_))
  · refine oT_N 1 rfl (oT_Ret rfl rfl rfl ⟨?_, rfl⟩)
    rw [if_neg (fun q => Int32.not_le.mpr h q.1)]
    rfl
  · refine oT_N 3 rfl (oT_If (fun h2 => ?_) (fun h2 => ?_))
    · refine oT_N 1 rfl (oT_Ret rfl rfl rfl ⟨?_, rfl⟩)
      rw [if_neg (fun q => Int32.not_lt.mpr h2 q.2)]
      rfl
    · refine oT_N 2 rfl (oT_Ret rfl rfl rfl ⟨?_, rfl⟩)
      rw [if_pos ⟨Int32.not_lt.mp h, Int32.not_le.mp h2⟩]
      rfl
theorem ot_isBelow' {L k : Nat} {i n : Int32} {σ : ox_S} : oT L k 49 0 [some (.int i), some (.int n)] [] σ (fun o σ' => o = .inl (some (.int (if 0 ≤ i ∧ i < n then 1 else 0))) ∧ σ' = σ) :=
  ⟨_, _, ⟨rfl, rfl⟩, ot_isBelow L k i n σ⟩
/-- OrderAxioms.thread -/
theorem ot_thread {L k : Nat} {σ : ox_S} (hk : 6 ≤ k) (hk9 : k ≤ 9) : oT L k 32 0 [some (.ref 0)] [] σ (fun o σ' => if σ 1 0 < 4 then o = .inl (some (.int (σ 1 0 + 1 - 1))) ∧ σ' = ox_up σ 1 0 (σ 1 0 + 1) else o = .inr 0 ∧ σ' = σ) := by
  refine oT_N 5 rfl (oT_If (fun (h0 : σ 1 0 < 4) => ?_) (fun (h0 : ¬ σ 1 0 < 4) => ?_))
  · refine oT_N 12 rfl (oT_Ret rfl rfl rfl ?_)
    rw [if_pos h0]
    exact ⟨rfl, rfl⟩
  · refine oT_T rfl (by decide) (by omega) (by omega) ?_
    rw [if_neg h0]
    exact ⟨rfl, rfl⟩
/-- the reference's thread -/
theorem ot_mthread {L k : Nat} {σ : ox_S} (hk : 2 ≤ k) (hk9 : k ≤ 9) : oT L k 53 0 [some (.ref 7)] [] σ (fun o σ' => if σ 7 1 = 4 then (∃ v, o = .inl (some (.int v))) ∧ σ' = ox_up σ 7 0 1 else o = .inl (some (.int (σ 7 1 + 1 - 1))) ∧ σ' = ox_up (ox_up σ 7 0 0) 7 1 (σ 7 1 + 1)) := by
  obtain ⟨k, rfl⟩ : ∃ k', k = k' + 1 := ⟨k - 1, by omega⟩
  refine oT_N 5 rfl (oT_If (fun (h0 : σ 7 1 = 4) => ?_) (fun (h0 : ¬ σ 7 1 = 4) => ?_))
  · refine oT_N 3 rfl (oT_V rfl rfl rfl rfl (by omega) (by omega) ot_throwing (fun x σ2 h => by cases h.1) (fun v σ2 hv => ?_))
    obtain ⟨hv, rfl⟩ := hv
    cases hv
    refine oT_N 1 rfl (oT_If (fun h1 => ?_) (fun h1 => ?_))
    · exact absurd h1 (by decide)
    · refine oT_N 1 rfl (oT_Ret rfl rfl rfl ?_)
      rw [if_pos h0]
      exact ⟨⟨_, rfl⟩, rfl⟩
  · refine oT_N 2 rfl (oT_V rfl rfl rfl rfl (by omega) (by omega) ot_throwing (fun x σ2 h => by cases h.1) (fun v σ2 hv => ?_))
    obtain ⟨hv, rfl⟩ := hv
    cases hv
    refine oT_N 1 rfl (oT_If (fun h1 => ?_) (fun h1 => ?_))
    · refine oT_N 10 rfl (oT_Ret rfl rfl rfl ?_)
      rw [if_neg h0]
      exact ⟨rfl, rfl⟩
    · exact absurd rfl h1
