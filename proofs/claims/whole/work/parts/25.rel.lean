/-- the reference's 'in' holds 0 and 1 alone -/
def oZ1 (σ : ox_S) (o N : Nat) : Prop := ∀ q, q < N → σ o q = 0 ∨ σ o q = 1
theorem ox_nb {x : Int32} (h : x = 0 ∨ x = 1) : narrow .boolean (.int x) = .int x := by
  rcases h with rfl | rfl <;> rfl
theorem ox_i3 (r a b : Nat) : (Int16.ofInt 144).toInt32 * nI r + (Int8.ofInt 12).toInt32 * nI a + nI b = nI (144 * r + 12 * a + b) := by
  rw [show (Int16.ofInt 144).toInt32 = nI 144 from rfl, show (Int8.ofInt 12).toInt32 = nI 12 from rfl, pk_mul, pk_mul, nI_add, nI_add]
theorem ot_is {L k r a b : Nat} {σ : ox_S} (hz : oZ1 σ 56 5760) (hr : r < 40) (ha : a < 12) (hb : b < 12) : oT L k 72 0 [some (.ref 7), some (.int (nI r)), some (.int (nI a)), some (.int (nI b))] [] σ (fun o σ' => o = .inl (some (.int (σ 56 (144 * r + 12 * a + b)))) ∧ σ' = σ) := by
  have hq : 144 * r + 12 * a + b < 5760 := by omega
  refine oT_N 11 rfl (oT_Z (o := 56) (n := (Int16.ofInt 144).toInt32 * nI r + (Int8.ofInt 12).toInt32 * nI a + nI b) rfl ⟨rfl, by decide⟩ (by rw [ox_i3]; exact ox_ix (N := 5760) hq (by decide)) ?_)
  rw [ox_i3, nI_clamp (by omega)]
  exact oT_Ret rfl rfl (ox_nb (hz _ hq)) ⟨rfl, rfl⟩
/-- is there one among the first m between a and b -/
def oJn (σ : ox_S) (r s a b : Nat) : Nat → Bool
  | 0 => false
  | m + 1 => oJn σ r s a b m || (decide (σ 56 (144 * r + 12 * a + m) = 1) && decide (σ 56 (144 * s + 12 * m + b) = 1))
theorem oJn_true {σ : ox_S} {r s a b i n : Nat} (h : oJn σ r s a b i = true) (hi : i ≤ n) : oJn σ r s a b n = true := by
  induction n with
  | zero => obtain rfl : i = 0 := by omega
            exact h
  | succ n ih =>
    rcases Nat.lt_or_ge n i with q | q
    · obtain rfl : i = n + 1 := by omega
      exact h
    · simp only [oJn, ih q, Bool.true_or]
theorem ot_isJoined {L k r s a b n : Nat} {σ : ox_S} (hz : oZ1 σ 56 5760) (hn : σ 7 2 = nI n) (hn12 : n ≤ 12) (hr : r < 40) (hs : s < 40) (ha : a < 12) (hb : b < 12) (hk : 2 ≤ k) (hk9 : k ≤ 9) :
    oT L k 73 0 [some (.ref 7), some (.int (nI r)), some (.int (nI s)), some (.int (nI a)), some (.int (nI b)), none, none] [] σ (fun o σ' => o = .inl (some (.int (if oJn σ r s a b n then 1 else 0))) ∧ σ' = σ) := by
  obtain ⟨k, rfl⟩ : ∃ k', k = k' + 1 := ⟨k - 1, by omega⟩
  refine oT_N 4 rfl ?_
  have hend : ∀ x : Bool, narrow .boolean (.int (if x then 1 else 0)) = .int (if x then 1 else 0) := fun x => by cases x <;> rfl
  have loop : ∀ d i, i + d = n → oT L (k + 1) 73 6 [some (.ref 7), some (.int (nI r)), some (.int (nI s)), some (.int (nI a)), some (.int (nI b)), some (.int (if oJn σ r s a b i then 1 else 0)), some (.int (nI i))] [] σ (fun o σ' => o = .inl (some (.int (if oJn σ r s a b n then 1 else 0))) ∧ σ' = σ) := by
    intro d
    induction d with
    | zero =>
      intro i hi
      obtain rfl : i = n := by omega
      refine oT_N 4 rfl (oT_If (fun (h0 : σ 7 2 ≤ nI i) => ?_) (fun (h0 : ¬ σ 7 2 ≤ nI i) => ?_))
      · exact oT_N 1 rfl (oT_Ret rfl rfl (hend _) ⟨rfl, rfl⟩)
      · rw [hn] at h0
        exact absurd (nI_le (by omega) (by omega)) h0
    | succ d ih =>
      intro i hi
      have e := ih (i + 1) (by omega)
      refine oT_N 4 rfl (oT_If (fun (h0 : σ 7 2 ≤ nI i) => ?_) (fun (h0 : ¬ σ 7 2 ≤ nI i) => ?_))
      · rw [hn] at h0
        exact absurd h0 (nI_ge (by omega) (by omega))
      · cases hj : oJn σ r s a b i with
        | true =>
          rw [if_pos rfl]
          refine oT_N 2 rfl (oT_If (fun (h1 : (1 : Int32) = 0) => absurd h1 (by decide)) (fun _ => ?_))
          refine oT_N 1 rfl (oT_Ret rfl rfl rfl ⟨?_, rfl⟩)
          rw [oJn_true hj (by omega)]
          rfl
        | false =>
          rw [if_neg (by decide)]
          refine oT_N 2 rfl (oT_If (fun _ => ?_) (fun (h1 : ¬ (0 : Int32) = 0) => absurd rfl h1))
          have g1 := hz (144 * r + 12 * a + i) (by omega)
          have g2 := hz (144 * s + 12 * i + b) (by omega)
          refine oT_N 4 rfl (oT_V rfl rfl rfl rfl (by omega) (by omega) (ot_is hz hr ha (by omega)) (fun x σ2 h => by cases h.1) (fun v σ2 hv => ?_))
          obtain ⟨hv, rfl⟩ := hv
          cases hv
          refine oT_N 1 rfl (oT_If (fun (h2 : σ2 56 (144 * r + 12 * a + i) = 0) => ?_) (fun (h2 : ¬ σ2 56 (144 * r + 12 * a + i) = 0) => ?_))
          · refine oT_N 4 rfl ?_
            rw [show oJn σ2 r s a b (i + 1) = false by simp [oJn, hj, h2], ← ox_inc i] at e
            exact e
          · refine oT_N 4 rfl (oT_V rfl rfl rfl rfl (by omega) (by omega) (ot_is hz hs (by omega) hb) (fun x σ2 h => by cases h.1) (fun v σ3 hv => ?_))
            obtain ⟨hv, rfl⟩ := hv
            cases hv
            have h2' : σ3 56 (144 * r + 12 * a + i) = 1 := by rcases g1 with q | q; exact absurd q h2; exact q
            refine oT_N 1 rfl (oT_If (fun (h3 : σ3 56 (144 * s + 12 * i + b) = 0) => ?_) (fun (h3 : ¬ σ3 56 (144 * s + 12 * i + b) = 0) => ?_))
            · refine oT_N 4 rfl ?_
              rw [show oJn σ3 r s a b (i + 1) = false by simp [oJn, hj, h3], ← ox_inc i] at e
              exact e
            · have h3' : σ3 56 (144 * s + 12 * i + b) = 1 := by rcases g2 with q | q; exact absurd q h3; exact q
              refine oT_N 5 rfl ?_
              rw [show oJn σ3 r s a b (i + 1) = true by simp [oJn, h2', h3'], ← ox_inc i] at e
              exact e
  exact loop n 0 (by omega)
