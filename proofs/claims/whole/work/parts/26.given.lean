theorem ot_sourceAt {L k e : Nat} {σ : ox_S} {P : oPr} (h : oM σ P) (he : e < P.n) : oT L k 69 0 [some (.ref 7), some (.int (nI e)), none, none] [] σ (fun o σ' => o = .inl (some (.int (σ 52 (ocR P e)))) ∧ σ' = σ) := by
  obtain ⟨⟨hT, hn, hok⟩, h1, h2, h3⟩ := h
  refine oT_N 4 rfl ?_
  have loop : ∀ d i, i + d = e → oT L k 69 4 [some (.ref 7), some (.int (nI e)), some (.int (nI (ocR P i))), some (.int (nI i))] [] σ (fun o σ' => o = .inl (some (.int (σ 52 (ocR P e)))) ∧ σ' = σ) := by
    intro d
    induction d with
    | zero =>
      intro i hi
      obtain rfl : i = e := by omega
      have hc := ocR_le P i
      refine oT_N 3 rfl (oT_If (fun (h0 : nI i ≤ nI i) => ?_) (fun (h0 : ¬ nI i ≤ nI i) => absurd (nI_le (Nat.le_refl i) (by omega)) h0))
      refine oT_N 3 rfl (oT_I (o := 52) (n := nI (ocR P i)) rfl (Or.inl ⟨rfl, by decide⟩) (ox_ix (N := 12) (by omega) (by decide)) ?_)
      rw [nI_clamp (by omega)]
      exact oT_Ret rfl rfl rfl ⟨rfl, rfl⟩
    | succ d ih =>
      intro i hi
      have e9 := ih (i + 1) (by omega)
      obtain ⟨g1, g2, g3, -⟩ := h3 i (by omega)
      refine oT_N 3 rfl (oT_If (fun (h0 : nI e ≤ nI i) => absurd h0 (nI_ge (by omega) (by omega))) (fun _ => ?_))
      refine oT_N 4 rfl (oT_I (o := 44) (n := nI i) rfl (Or.inl ⟨rfl, by decide⟩) (ox_ix (N := 12) (by omega) (by decide)) ?_)
      rw [nI_clamp (show i < 2 ^ 31 by omega), g2]
      refine oT_N 1 rfl (oT_If (fun (h9 : nI (P.kd i) = 0) => ?_) (fun (h9 : ¬ nI (P.kd i) = 0) => ?_))
      · have hk : P.kd i = 0 := (nI_eq (by have := hok i (by omega); omega) (by decide)).mp h9
        refine oT_N 6 rfl ?_
        rw [show ocR P (i + 1) = ocR P i + 1 by simp only [ocR]; rw [if_pos hk], ← ox_inc i, ← ox_inc (ocR P i)] at e9
        exact e9
      · have hk : ¬ P.kd i = 0 := fun q => h9 (by rw [q]; rfl)
        refine oT_N 5 rfl ?_
        rw [show ocR P (i + 1) = ocR P i by simp only [ocR]; rw [if_neg hk]; rfl, ← ox_inc i, ← ox_add0 (nI (ocR P i))] at e9
        exact e9
  exact loop e 0 (by omega)
/-- a fence of a's thread behind a, ahead of m -/
def oFn (P : oPr) (a : Nat) : Nat → Bool
  | 0 => false
  | m + 1 => oFn P a m || (decide (a < m) && decide (P.kd m = 2) && decide (P.th m = P.th a))
theorem oFn_low {P : oPr} {a : Nat} : ∀ m, m ≤ a + 1 → oFn P a m = false
  | 0, _ => rfl
  | m + 1, h => by
    have ih := oFn_low (P := P) (a := a) m (by omega)
    simp only [oFn, ih, Bool.false_or, show ¬ a < m by omega, decide_false, Bool.false_and]
theorem ot_isFenced {L k a b : Nat} {σ : ox_S} {P : oPr} (h : oM σ P) (ha : a < P.n) (hb : b < P.n) : oT L k 70 0 [some (.ref 7), some (.int (nI a)), some (.int (nI b)), none, none] [] σ (fun o σ' => o = .inl (some (.int (if oFn P a b && decide (P.kd a ≠ 2) && decide (P.kd b ≠ 2) then 1 else 0))) ∧ σ' = σ) := by
  obtain ⟨⟨hT, hn, hok⟩, h1, h2, h3⟩ := h
  obtain ⟨ga1, ga2, -⟩ := h3 a ha
  obtain ⟨gb1, gb2, -⟩ := h3 b hb
  obtain ⟨oa1, oa2, -⟩ := hok a ha
  obtain ⟨ob1, ob2, -⟩ := hok b hb
  refine oT_N 6 rfl ?_
  have hexit : ∀ i, b ≤ i → i < 2 ^ 31 → oT L k 70 7 [some (.ref 7), some (.int (nI a)), some (.int (nI b)), some (.int (if oFn P a b then 1 else 0)), some (.int (nI i))] [] σ (fun o σ' => o = .inl (some (.int (if oFn P a b && decide (P.kd a ≠ 2) && decide (P.kd b ≠ 2) then 1 else 0))) ∧ σ' = σ) := by
    intro i hi hi2
    refine oT_N 3 rfl (oT_If (fun _ => ?_) (fun (h0 : ¬ nI b ≤ nI i) => absurd (nI_le hi hi2) h0))
    cases hf : oFn P a b with
    | false =>
      refine oT_N 2 rfl (oT_If (fun _ => ?_) (fun (h1 : ¬ (0 : Int32) = 0) => absurd rfl h1))
      exact oT_N 1 rfl (oT_Ret rfl rfl rfl ⟨rfl, rfl⟩)
    | true =>
      refine oT_N 2 rfl (oT_If (fun (h1 : (1 : Int32) = 0) => absurd h1 (by decide)) (fun _ => ?_))
      refine oT_N 3 rfl (oT_I (o := 44) (n := nI a) rfl (Or.inl ⟨rfl, by decide⟩) (ox_ix (N := 12) (by omega) (by decide)) ?_)
      rw [nI_clamp (show a < 2 ^ 31 by omega), ga2]
      refine oT_N 2 rfl (oT_If (fun (h2 : nI (P.kd a) = nI 2) => ?_) (fun (h2 : ¬ nI (P.kd a) = nI 2) => ?_))
      · have hk := (ox_kdI oa2 (by decide)).mp h2
        refine oT_N 1 rfl (oT_Ret rfl rfl rfl ⟨?_, rfl⟩)
        simp [hk]
      · have hk : P.kd a ≠ 2 := fun q => h2 (by rw [q])
        refine oT_N 3 rfl (oT_I (o := 44) (n := nI b) rfl (Or.inl ⟨rfl, by decide⟩) (ox_ix (N := 12) (by omega) (by decide)) ?_)
        rw [nI_clamp (show b < 2 ^ 31 by omega), gb2]
        refine oT_N 2 rfl (oT_If (fun (h3 : nI (P.kd b) = nI 2) => ?_) (fun (h3 : ¬ nI (P.kd b) = nI 2) => ?_))
        · have hk2 := (ox_kdI ob2 (by decide)).mp h3
          refine oT_N 1 rfl (oT_Ret rfl rfl rfl ⟨?_, rfl⟩)
          simp [hk2]
        · have hk2 : P.kd b ≠ 2 := fun q => h3 (by rw [q])
          refine oT_N 2 rfl (oT_Ret rfl rfl rfl ⟨?_, rfl⟩)
          simp [hk, hk2]
  have loop : ∀ d i, a < i → i + d = b → oT L k 70 7 [some (.ref 7), some (.int (nI a)), some (.int (nI b)), some (.int (if oFn P a i then 1 else 0)), some (.int (nI i))] [] σ (fun o σ' => o = .inl (some (.int (if oFn P a b && decide (P.kd a ≠ 2) && decide (P.kd b ≠ 2) then 1 else 0))) ∧ σ' = σ) := by
    intro d
    induction d with
    | zero =>
      intro i hai hi
      obtain rfl : i = b := by omega
      exact hexit i (Nat.le_refl i) (by omega)
    | succ d ih =>
      intro i hai hi
      have e := ih (i + 1) (by omega) (by omega)
      obtain ⟨g1, g2, -⟩ := h3 i (by omega)
      obtain ⟨o1, o2, -⟩ := hok i (by omega)
      refine oT_N 3 rfl (oT_If (fun (h0 : nI b ≤ nI i) => absurd h0 (nI_ge (by omega) (by omega))) (fun _ => ?_))
      cases hf : oFn P a i with
      | true =>
        refine oT_N 2 rfl (oT_If (fun (h1 : (1 : Int32) = 0) => absurd h1 (by decide)) (fun _ => ?_))
        refine oT_N 5 rfl ?_
        rw [show oFn P a (i + 1) = true by simp [oFn, hf], ← ox_inc i] at e
        exact e
      | false =>
        refine oT_N 2 rfl (oT_If (fun _ => ?_) (fun (h1 : ¬ (0 : Int32) = 0) => absurd rfl h1))
        refine oT_N 3 rfl (oT_I (o := 44) (n := nI i) rfl (Or.inl ⟨rfl, by decide⟩) (ox_ix (N := 12) (by omega) (by decide)) ?_)
        rw [nI_clamp (show i < 2 ^ 31 by omega), g2]
        refine oT_N 2 rfl (oT_If (fun (h2 : nI (P.kd i) = nI 2) => ?_) (fun (h2 : ¬ nI (P.kd i) = nI 2) => ?_))
        · have hk := (ox_kdI o2 (by decide)).mp h2
          refine oT_N 3 rfl (oT_I (o := 43) (n := nI i) rfl (Or.inl ⟨rfl, by decide⟩) (ox_ix (N := 12) (by omega) (by decide)) ?_)
          rw [nI_clamp (show i < 2 ^ 31 by omega), g1]
          refine oT_N 3 rfl (oT_I (o := 43) (n := nI a) rfl (Or.inl ⟨rfl, by decide⟩) (ox_ix (N := 12) (by omega) (by decide)) ?_)
          rw [nI_clamp (show a < 2 ^ 31 by omega), ga1]
          refine oT_N 1 rfl (oT_If (fun (h4 : nI (P.th i) = nI (P.th a)) => ?_) (fun (h4 : ¬ nI (P.th i) = nI (P.th a)) => ?_))
          · have ht := (nI_eq (by omega) (by omega)).mp h4
            refine oT_N 5 rfl ?_
            rw [show oFn P a (i + 1) = true by simp [oFn, hai, hk, ht], ← ox_inc i] at e
            exact e
          · have ht : P.th i ≠ P.th a := fun q => h4 (by rw [q])
            refine oT_N 4 rfl ?_
            rw [show oFn P a (i + 1) = false by simp [oFn, hf, ht], ← ox_inc i] at e
            exact e
        · have hk : P.kd i ≠ 2 := fun q => h2 (by rw [q])
          refine oT_N 4 rfl ?_
          rw [show oFn P a (i + 1) = false by simp [oFn, hf, hk], ← ox_inc i] at e
          exact e
  rcases Nat.lt_or_ge (a + 1) b with q | q
  · have e := loop (b - (a + 1)) (a + 1) (by omega) (by omega)
    rw [oFn_low (a + 1) (Nat.le_refl _), ← ox_inc a] at e
    exact e
  · have e := hexit (a + 1) q (by omega)
    rw [oFn_low b q, ← ox_inc a] at e
    rw [oFn_low b q]
    exact e
