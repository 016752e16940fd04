/-- words of R ints: below, alike -/
def oLx (R : Nat) (u v : Nat → Int32) : Prop := ∃ i, i < R ∧ u i < v i ∧ ∀ j, j < i → u j = v j
def oQ (R : Nat) (u v : Nat → Int32) : Bool := decide (∀ i, i < R → u i = v i)
theorem oQ_iff {R : Nat} {u v : Nat → Int32} : oQ R u v = true ↔ ∀ i, i < R → u i = v i := decide_eq_true_iff
theorem oQ_sym {R : Nat} {u v : Nat → Int32} (h : oQ R u v = true) : oQ R v u = true := oQ_iff.mpr (fun i hi => (oQ_iff.mp h i hi).symm)
theorem oQ_tr {R : Nat} {u v w : Nat → Int32} (h : oQ R u v = true) (g : oQ R v w = true) : oQ R u w = true := oQ_iff.mpr (fun i hi => (oQ_iff.mp h i hi).trans (oQ_iff.mp g i hi))
theorem oLx_irr {R : Nat} {u v : Nat → Int32} (h : oQ R u v = true) : ¬ oLx R u v := by
  rintro ⟨i, h1, h2, -⟩
  rw [oQ_iff.mp h i h1] at h2
  exact Int32.lt_irrefl h2
theorem oLx_trans {R : Nat} {u v w : Nat → Int32} (h : oLx R u v) (g : oLx R v w) : oLx R u w := by
  obtain ⟨i, h1, h2, h3⟩ := h
  obtain ⟨j, g1, g2, g3⟩ := g
  rcases Nat.lt_trichotomy i j with q | q | q
  · exact ⟨i, h1, by rw [← g3 i q]; exact h2, fun l hl => by rw [h3 l hl, g3 l (by omega)]⟩
  · subst q
    exact ⟨i, h1, Int32.lt_trans h2 g2, fun l hl => by rw [h3 l hl, g3 l hl]⟩
  · exact ⟨j, g1, by rw [h3 j q]; exact g2, fun l hl => by rw [h3 l (by omega), g3 l hl]⟩
theorem oLx_ext {R : Nat} {u v u' v' : Nat → Int32} (hu : oQ R u u' = true) (hv : oQ R v v' = true) (h : oLx R u v) : oLx R u' v' := by
  obtain ⟨i, h1, h2, h3⟩ := h
  exact ⟨i, h1, by rw [← oQ_iff.mp hu i h1, ← oQ_iff.mp hv i h1]; exact h2, fun j hj => by rw [← oQ_iff.mp hu j (by omega), ← oQ_iff.mp hv j (by omega)]; exact h3 j hj⟩
theorem oQ_rf {R : Nat} {u : Nat → Int32} : oQ R u u = true := oQ_iff.mpr (fun _ _ => rfl)
/-- m words in order, how often each comes among the first X that al takes, and its first -/
def oLm (R : Nat) (al : Nat → Bool) (vec : Nat → Nat → Int32) (X m : Nat) (V : Nat → Nat → Int32) (c f : Nat → Nat) : Prop :=
  (∀ k k', k < k' → k' < m → oLx R (V k) (V k')) ∧ (∀ k, k < m → c k = oCn (fun x => al x && oQ R (vec x) (V k)) X ∧ f k < X ∧ al (f k) = true ∧ oQ R (vec (f k)) (V k) = true ∧ ∀ x, x < f k → ¬ (al x = true ∧ oQ R (vec x) (V k) = true)) ∧ ∀ x, x < X → al x = true → ∃ k, k < m ∧ oQ R (vec x) (V k) = true
theorem oLm_one' {R X m m' : Nat} {al : Nat → Bool} {vec V V' : Nat → Nat → Int32} {c f c' f' : Nat → Nat} (h : oLm R al vec X m V c f) (g : oLm R al vec X m' V' c' f') : ∀ k, k < m → k < m' ∧ oQ R (V k) (V' k) = true := by
  intro k
  induction k using Nat.strongRecOn with
  | ind k ih =>
    intro hk
    obtain ⟨h1, h2, h3⟩ := h
    obtain ⟨g1, g2, g3⟩ := g
    obtain ⟨-, a1, a2, a3, -⟩ := h2 k hk
    obtain ⟨k', b1, b2⟩ := g3 _ a1 a2
    have e : oQ R (V k) (V' k') = true := oQ_tr (oQ_sym a3) b2
    rcases Nat.lt_trichotomy k' k with q | q | q
    · exact absurd (h1 k' k q hk) (oLx_irr (oQ_tr (ih k' q (by omega)).2 (oQ_sym e)))
    · subst q
      exact ⟨b1, e⟩
    · have hk' : k < m' := by omega
      refine ⟨hk', ?_⟩
      obtain ⟨-, d1, d2, d3, -⟩ := g2 k hk'
      obtain ⟨j, j1, j2⟩ := h3 _ d1 d2
      have e2 : oQ R (V' k) (V j) = true := oQ_tr (oQ_sym d3) j2
      rcases Nat.lt_trichotomy j k with r | r | r
      · exact absurd (g1 j k r hk') (oLx_irr (oQ_sym (oQ_tr e2 (ih j r j1).2)))
      · subst r
        exact oQ_sym e2
      · exact absurd (oLx_trans (h1 k j r j1) (oLx_ext e2 (oQ_sym e) (g1 k k' q b1))) (oLx_irr oQ_rf)
theorem oLm_one {R X m m' : Nat} {al : Nat → Bool} {vec V V' : Nat → Nat → Int32} {c f c' f' : Nat → Nat} (h : oLm R al vec X m V c f) (g : oLm R al vec X m' V' c' f') : m = m' ∧ ∀ k, k < m → (∀ i, i < R → V k i = V' k i) ∧ c k = c' k ∧ f k = f' k := by
  have hm : m = m' := by
    rcases Nat.lt_trichotomy m m' with q | q | q
    · exact absurd (oLm_one' g h m q).1 (by omega)
    · exact q
    · exact absurd (oLm_one' h g m' q).1 (by omega)
  refine ⟨hm, fun k hk => ?_⟩
  have e := (oLm_one' h g k hk).2
  obtain ⟨a1, a2, a3, a4, a5⟩ := h.2.1 k hk
  obtain ⟨b1, b2, b3, b4, b5⟩ := g.2.1 k (by omega)
  have eb : ∀ x, oQ R (vec x) (V k) = oQ R (vec x) (V' k) := fun x => Bool.eq_iff_iff.mpr ⟨fun q => oQ_tr q e, fun q => oQ_tr q (oQ_sym e)⟩
  refine ⟨fun i hi => oQ_iff.mp e i hi, ?_, ?_⟩
  · rw [a1, b1]
    exact oCn_ext X (fun x _ => by rw [eb])
  · rcases Nat.lt_trichotomy (f k) (f' k) with q | q | q
    · exact absurd ⟨a3, by rw [← eb]; exact a4⟩ (b5 _ q)
    · exact q
    · exact absurd ⟨b3, by rw [eb]; exact b4⟩ (a5 _ q)
theorem oLm_skip {R X m : Nat} {al : Nat → Bool} {vec V : Nat → Nat → Int32} {c f : Nat → Nat} (h : oLm R al vec X m V c f) (ha : al X = false) : oLm R al vec (X + 1) m V c f := by
  obtain ⟨h1, h2, h3⟩ := h
  refine ⟨h1, fun k hk => ?_, fun x hx hal => ?_⟩
  · obtain ⟨a1, a2, a3⟩ := h2 k hk
    refine ⟨?_, by omega, a3⟩
    rw [a1]
    simp [oCn, ha]
  · rcases Nat.lt_or_ge x X with q | q
    · exact h3 x q hal
    · obtain rfl : x = X := by omega
      rw [ha] at hal
      cases hal
theorem oLm_hit {R X m k0 : Nat} {al : Nat → Bool} {vec V : Nat → Nat → Int32} {c f : Nat → Nat} (h : oLm R al vec X m V c f) (ha : al X = true) (hk : k0 < m) (hq : oQ R (vec X) (V k0) = true) : oLm R al vec (X + 1) m V (fun k => if k = k0 then c k + 1 else c k) f := by
  obtain ⟨h1, h2, h3⟩ := h
  refine ⟨h1, fun k hk' => ?_, fun x hx hal => ?_⟩
  · obtain ⟨a1, a2, a3⟩ := h2 k hk'
    refine ⟨?_, by omega, a3⟩
    show (if k = k0 then c k + 1 else c k) = _
    by_cases e : k = k0
    · subst e
      rw [if_pos rfl, a1]
      simp [oCn, ha, hq]
    · rw [if_neg e, a1]
      have : oQ R (vec X) (V k) = false := by
        cases hb : oQ R (vec X) (V k) with
        | false => rfl
        | true =>
          rcases Nat.lt_or_ge k k0 with q | q
          · exact absurd (h1 k k0 q hk) (oLx_irr (oQ_tr (oQ_sym hb) hq))
          · exact absurd (h1 k0 k (by omega) hk') (oLx_irr (oQ_tr (oQ_sym hq) hb))
      simp [oCn, this]
  · rcases Nat.lt_or_ge x X with q | q
    · exact h3 x q hal
    · obtain rfl : x = X := by omega
      exact ⟨k0, hk, hq⟩
/-- a put in at place low -/
def oIn {α : Type} (low : Nat) (a : α) (g : Nat → α) (k : Nat) : α := if k < low then g k else if k = low then a else g (k - 1)
theorem oIn_lo {α : Type} {low k : Nat} {a : α} {g : Nat → α} (h : k < low) : oIn low a g k = g k := if_pos h
theorem oIn_at {α : Type} {low : Nat} {a : α} {g : Nat → α} : oIn low a g low = a := by
  unfold oIn
  rw [if_neg (Nat.lt_irrefl _), if_pos rfl]
theorem oIn_hi {α : Type} {low k : Nat} {a : α} {g : Nat → α} (h : low < k) : oIn low a g k = g (k - 1) := by
  unfold oIn
  rw [if_neg (by omega), if_neg (by omega)]
theorem oCn_0 {f : Nat → Bool} : ∀ n, (∀ j, j < n → f j = false) → oCn f n = 0
  | 0, _ => rfl
  | n + 1, h => by
    simp only [oCn]
    rw [oCn_0 n (fun j hj => h j (by omega)), h n (by omega)]
    rfl
theorem oLm_new {R X m low : Nat} {al : Nat → Bool} {vec V : Nat → Nat → Int32} {c f : Nat → Nat} (h : oLm R al vec X m V c f) (ha : al X = true) (hl : low ≤ m) (hlo : ∀ k, k < low → oLx R (V k) (vec X)) (hhi : ∀ k, low ≤ k → k < m → oLx R (vec X) (V k)) : oLm R al vec (X + 1) (m + 1) (oIn low (vec X) V) (oIn low 1 c) (oIn low X f) := by
  obtain ⟨h1, h2, h3⟩ := h
  have hne : ∀ k, k < m → oQ R (vec X) (V k) = false := fun k hk => by
    cases hb : oQ R (vec X) (V k) with
    | false => rfl
    | true =>
      rcases Nat.lt_or_ge k low with q | q
      · exact absurd (hlo k q) (oLx_irr (oQ_sym hb))
      · exact absurd (hhi k q hk) (oLx_irr hb)
  have hold : ∀ k, k < m → c k = oCn (fun x => al x && oQ R (vec x) (V k)) (X + 1) ∧ f k < X + 1 ∧ al (f k) = true ∧ oQ R (vec (f k)) (V k) = true ∧ ∀ x, x < f k → ¬ (al x = true ∧ oQ R (vec x) (V k) = true) := fun k hk => by
    obtain ⟨a1, a2, a3⟩ := h2 k hk
    refine ⟨?_, by omega, a3⟩
    rw [a1]
    simp [oCn, hne k hk]
  have hnew : ∀ x, x < X → ¬ (al x = true ∧ oQ R (vec x) (vec X) = true) := fun x hx q => by
    obtain ⟨k, k1, k2⟩ := h3 x hx q.1
    have := oQ_tr (oQ_sym q.2) k2
    rw [hne k k1] at this
    cases this
  refine ⟨fun k k' hk hk' => ?_, fun k hk => ?_, fun x hx hal => ?_⟩
  · rcases Nat.lt_trichotomy k low with q | q | q
    · rw [oIn_lo q]
      rcases Nat.lt_trichotomy k' low with r | r | r
      · rw [oIn_lo r]
        exact h1 k k' hk (by omega)
      · rw [r, oIn_at]
        exact hlo k q
      · rw [oIn_hi r]
        exact h1 k (k' - 1) (by omega) (by omega)
    · rw [q, oIn_at, oIn_hi (by omega)]
      exact hhi (k' - 1) (by omega) (by omega)
    · rw [oIn_hi q, oIn_hi (by omega)]
      exact h1 (k - 1) (k' - 1) (by omega) (by omega)
  · rcases Nat.lt_trichotomy k low with q | q | q
    · rw [oIn_lo q, oIn_lo q, oIn_lo q]
      exact hold k (by omega)
    · rw [q, oIn_at, oIn_at, oIn_at]
      refine ⟨?_, by omega, ha, oQ_rf, fun x hx => hnew x hx⟩
      simp only [oCn, ha, oQ_rf, Bool.and_self, if_true]
      rw [oCn_0 X (fun j hj => by
        cases hb : (al j && oQ R (vec j) (vec X)) with
        | false => rfl
        | true =>
          rw [Bool.and_eq_true] at hb
          exact absurd hb (hnew j hj))]
    · rw [oIn_hi q, oIn_hi q, oIn_hi q]
      exact hold (k - 1) (by omega)
  · rcases Nat.lt_or_ge x X with q | q
    · obtain ⟨k, k1, k2⟩ := h3 x q hal
      rcases Nat.lt_or_ge k low with r | r
      · exact ⟨k, by omega, by rw [oIn_lo r]; exact k2⟩
      · exact ⟨k + 1, by omega, by rw [oIn_hi (by omega)]; exact k2⟩
    · obtain rfl : x = X := by omega
      exact ⟨low, by omega, by rw [oIn_at]; exact oQ_rf⟩
/-- what 'compare' answers -/
def oCm (R : Nat) (u v : Nat → Int32) (c : Int32) : Prop := (c = -1 ∧ oLx R u v) ∨ (c = 0 ∧ oQ R u v = true) ∨ (c = 1 ∧ oLx R v u)
theorem ot_compare {L k R r : Nat} {σ : ox_S} (hR : σ 7 23 = nI R) (hR12 : R ≤ 12) (hr : r < 5000) : oT L k 79 0 [some (.ref 7), some (.int (nI r)), none] [] σ (fun o σ' => σ' = σ ∧ ∃ c, o = .inl (some (.int c)) ∧ oCm R (fun i => σ 59 (12 * r + i)) (σ 62) c) := by
  refine oT_N 2 rfl ?_
  have loop : ∀ d i, i + d = R → (∀ j, j < i → σ 59 (12 * r + j) = σ 62 j) → oT L k 79 2 [some (.ref 7), some (.int (nI r)), some (.int (nI i))] [] σ (fun o σ' => σ' = σ ∧ ∃ c, o = .inl (some (.int c)) ∧ oCm R (fun i => σ 59 (12 * r + i)) (σ 62) c) := by
    intro d
    induction d with
    | zero =>
      intro i hi he
      refine oT_N 4 rfl (oT_le R i hR rfl (by omega) (by omega) (fun _ => ?_) (fun q => by omega))
      refine oT_N 1 rfl (oT_Ret rfl rfl rfl ⟨rfl, _, rfl, Or.inr (Or.inl ⟨rfl, oQ_iff.mpr (fun j hj => he j (by omega))⟩)⟩)
    | succ d ih =>
      intro i hi he
      have hix : ¬ ((Int8.ofInt 12).toInt32 * nI r + nI i < 0 ∨ 60000 ≤ ((Int8.ofInt 12).toInt32 * nI r + nI i).toNatClampNeg) := by rw [ox_i2]; exact ox_ix (by omega) (by decide)
      have n12 : ¬ (nI i < 0 ∨ 12 ≤ (nI i).toNatClampNeg) := ox_ix (by omega) (by decide)
      refine oT_N 4 rfl (oT_le R i hR rfl (by omega) (by omega) (fun q => by omega) (fun _ => ?_))
      refine oT_N 7 rfl (oT_I (o := 59) (n := (Int8.ofInt 12).toInt32 * nI r + nI i) rfl (Or.inl ⟨rfl, by decide⟩) hix ?_)
      rw [ox_i2, nI_clamp (by omega)]
      refine oT_N 3 rfl (oT_I (o := 62) (n := nI i) rfl (Or.inl ⟨rfl, by decide⟩) n12 ?_)
      rw [nI_clamp (by omega)]
      refine oT_N 1 rfl (oT_If (fun (q : σ 59 (12 * r + i) = σ 62 i) => ?_) (fun (q : ¬ σ 59 (12 * r + i) = σ 62 i) => ?_))
      · have e := ih (i + 1) (by omega) (fun j hj => by
          rcases Nat.lt_or_ge j i with q2 | q2
          · exact he j q2
          · obtain rfl : j = i := by omega
            exact q)
        rw [← ox_inc i] at e
        exact oT_N 2 rfl e
      · refine oT_N 7 rfl (oT_I (o := 59) (n := (Int8.ofInt 12).toInt32 * nI r + nI i) rfl (Or.inl ⟨rfl, by decide⟩) hix ?_)
        rw [ox_i2, nI_clamp (by omega)]
        refine oT_N 3 rfl (oT_I (o := 62) (n := nI i) rfl (Or.inl ⟨rfl, by decide⟩) n12 ?_)
        rw [nI_clamp (by omega)]
        refine oT_N 1 rfl (oT_If (fun (q2 : σ 62 i ≤ σ 59 (12 * r + i)) => ?_) (fun (q2 : ¬ σ 62 i ≤ σ 59 (12 * r + i)) => ?_))
        · refine oT_N 1 rfl (oT_Ret rfl rfl rfl ⟨rfl, _, rfl, Or.inr (Or.inr ⟨rfl, i, by omega, Int32.lt_of_le_of_ne q2 (fun e => q e.symm), fun j hj => (he j hj).symm⟩)⟩)
        · refine oT_N 2 rfl (oT_Ret rfl rfl rfl ⟨rfl, _, rfl, Or.inl ⟨rfl, i, by omega, Int32.not_le.mp q2, fun j hj => he j hj⟩⟩)
  exact loop R 0 (by omega) (fun j hj => by omega)
/-- the reference's list after X executions -/
def oLi (σ : ox_S) (R : Nat) (al : Nat → Bool) (vec : Nat → Nat → Int32) (X : Nat) : Prop :=
  ∃ (m : Nat) (ρ : Nat → Nat) (V : Nat → Nat → Int32) (c f : Nat → Nat), oLm R al vec X m V c f ∧ m ≤ X ∧ σ 7 20 = nI m ∧ ∀ k, k < m → ρ k < m ∧ σ 58 k = nI (ρ k) ∧ (∀ i, i < R → σ 59 (12 * ρ k + i) = V k i) ∧ σ 60 (ρ k) = nI (c k) ∧ σ 61 (ρ k) = nI (f k)
theorem oLi_skip {σ : ox_S} {R X : Nat} {al : Nat → Bool} {vec : Nat → Nat → Int32} (h : oLi σ R al vec X) (ha : al X = false) : oLi σ R al vec (X + 1) := by
  obtain ⟨m, ρ, V, c, f, h1, h2, h3⟩ := h
  exact ⟨m, ρ, V, c, f, oLm_skip h1 ha, by omega, h3⟩
theorem oLi_ext {σ τ : ox_S} {R X : Nat} {al : Nat → Bool} {vec : Nat → Nat → Int32} (h : oLi σ R al vec X) (h7 : τ 7 20 = σ 7 20) (ho : ∀ o, 58 ≤ o → o ≤ 61 → τ o = σ o) : oLi τ R al vec X := by
  obtain ⟨m, ρ, V, c, f, h1, h2, h3, h4⟩ := h
  refine ⟨m, ρ, V, c, f, h1, h2, by rw [h7]; exact h3, fun k hk => ?_⟩
  rw [ho 58 (by decide) (by decide), ho 59 (by decide) (by decide), ho 60 (by decide) (by decide), ho 61 (by decide) (by decide)]
  exact h4 k hk
/-- what 'take' leaves -/
def oTk (σ σ' : ox_S) (R : Nat) (al : Nat → Bool) (vec : Nat → Nat → Int32) (X : Nat) : Prop :=
  (∀ o, o < 7 ∨ (7 < o ∧ o < 58) ∨ 62 < o → σ' o = σ o) ∧ (∀ q, q ≠ 20 → σ' 7 q = σ 7 q) ∧ oLi σ' R al vec X
set_option maxHeartbeats 1000000 in
theorem ot_take {L k R X : Nat} {al : Nat → Bool} {vec : Nat → Nat → Int32} {σ : ox_S} (hR : σ 7 23 = nI R) (hR12 : R ≤ 12) (hX : X < 5000) (ha : al X = true) (hl : oLi σ R al vec X) (hs : ∀ i, i < R → (σ 52 i = -1 ∧ vec X i = 0) ∨ ∃ e, e < 12 ∧ σ 52 i = nI e ∧ σ 46 e = vec X i) (hk : 2 ≤ k) (hk9 : k ≤ 9) :
    oT L k 80 0 [some (.ref 7), some (.int (nI X)), none, none, none] [] σ (fun o σ' => o = .inl none ∧ oTk σ σ' R al vec (X + 1)) := by
  obtain ⟨k, rfl⟩ : ∃ k', k = k' + 1 := ⟨k - 1, by omega⟩
  obtain ⟨m, ρ, V, c, f, lm, hm, h20, rows⟩ := hl
  have hρ : ∀ k k', k < m → k' < m → ρ k = ρ k' → k = k' := fun k k' hk hk' e => by
    have e2 : oQ R (V k) (V k') = true := oQ_iff.mpr (fun i hi => by
      rw [← (rows k hk).2.2.1 i hi, ← (rows k' hk').2.2.1 i hi, e])
    rcases Nat.lt_trichotomy k k' with q | q | q
    · exact absurd (lm.1 k k' q hk') (oLx_irr e2)
    · exact q
    · exact absurd (lm.1 k' k q hk) (oLx_irr (oQ_sym e2))
  -- the new word's values
  have vals : ∀ (d i : Nat) (low : Nat) (x3 : Int32) (τ : ox_S), i + d = R → low ≤ m → (∀ o, o < 58 ∨ 62 < o → τ o = σ o) → (∀ j, j < R → τ 62 j = vec X j) → (∀ j, j < i → τ 59 (12 * m + j) = vec X j) → (∀ q, q < 12 * m → τ 59 q = σ 59 q) → (∀ k, k < m + 1 → τ 58 k = nI (oIn low m ρ k)) → τ 60 = σ 60 → τ 61 = σ 61 → (∀ k, k < low → oLx R (V k) (vec X)) → (∀ k, low ≤ k → k < m → oLx R (vec X) (V k)) →
      oT L (k + 1) 80 177 [some (.ref 7), some (.int (nI X)), some (.int (nI low)), some (.int x3), some (.int (nI i))] [] τ (fun o σ' => o = .inl none ∧ oTk σ σ' R al vec (X + 1)) := by
    intro d
    induction d with
    | zero =>
      intro i low x3 τ hi hlow t1 t2 t3 t4 t5 t6 t7 hlo hhi
      obtain rfl : i = R := by omega
      have t7' : τ 7 = σ 7 := t1 7 (by decide)
      refine oT_N 4 rfl (oT_le i i (by rw [t7']; exact hR) rfl (by omega) (by omega) (fun _ => ?_) (fun q => by omega))
      refine oT_N 5 rfl (oT_Is (o := 60) (n := τ 7 20) (x := Int32.ofInt 1) rfl ⟨rfl, by decide⟩ (by rw [t7', h20]; exact ox_ix (N := 5000) (by omega) (by decide)) ?_)
      rw [t7', h20, nI_clamp (show m < 2 ^ 31 by omega)]
      have u7 : ox_up τ 60 m (Int32.ofInt 1) 7 20 = nI m := by rw [ox_up_ne (by decide), t7', h20]
      refine oT_N 5 rfl (oT_Is (o := 61) (n := ox_up τ 60 m (Int32.ofInt 1) 7 20) (x := nI X) rfl ⟨rfl, by decide⟩ (by rw [u7]; exact ox_ix (N := 5000) (by omega) (by decide)) ?_)
      rw [u7, nI_clamp (show m < 2 ^ 31 by omega)]
      refine oT_N 6 rfl (oT_Retv rfl rfl ⟨rfl, ?_⟩)
      have u8 : ox_up (ox_up τ 60 m (Int32.ofInt 1)) 61 m (nI X) 7 20 + Int32.ofInt 1 = nI (m + 1) := by rw [ox_up_ne (by decide), u7]; exact ox_inc m
      rw [u8]
      refine ⟨fun o ho => ?_, fun q hq => ?_, m + 1, oIn low m ρ, oIn low (vec X) V, oIn low 1 c, oIn low X f, oLm_new lm ha hlow hlo hhi, by omega, by rw [ox_up_at, if_pos rfl], fun k hk => ?_⟩
      · rw [ox_up_ne (by omega), ox_up_ne (by omega), ox_up_ne (by omega)]
        exact t1 o (by omega)
      · rw [ox_up_at, if_neg hq, ox_up_ne (by decide), ox_up_ne (by decide), t7']
      · have hold : ∀ j, j < m → ρ j < m + 1 ∧ (∀ i', i' < i → ox_up (ox_up (ox_up τ 60 m (Int32.ofInt 1)) 61 m (nI X)) 7 20 (nI (m + 1)) 59 (12 * ρ j + i') = V j i') ∧ ox_up (ox_up (ox_up τ 60 m (Int32.ofInt 1)) 61 m (nI X)) 7 20 (nI (m + 1)) 60 (ρ j) = nI (c j) ∧ ox_up (ox_up (ox_up τ 60 m (Int32.ofInt 1)) 61 m (nI X)) 7 20 (nI (m + 1)) 61 (ρ j) = nI (f j) := fun j hj => by
          obtain ⟨a1, a2, a3, a4, a5⟩ := rows j hj
          refine ⟨by omega, fun i' hi' => ?_, ?_, ?_⟩
          · rw [ox_up_ne (by decide), ox_up_ne (by decide), ox_up_ne (by decide), t4 _ (by omega)]
            exact a3 i' hi'
          · rw [ox_up_ne (by decide), ox_up_ne (by decide), ox_up_at, if_neg (by omega), t6]
            exact a4
          · rw [ox_up_ne (by decide), ox_up_at, if_neg (by omega), ox_up_ne (by decide), t7]
            exact a5
        have hk58 : ox_up (ox_up (ox_up τ 60 m (Int32.ofInt 1)) 61 m (nI X)) 7 20 (nI (m + 1)) 58 k = nI (oIn low m ρ k) := by
          rw [ox_up_ne (by decide), ox_up_ne (by decide), ox_up_ne (by decide)]
          exact t5 k hk
        rw [hk58]
        rcases Nat.lt_trichotomy k low with q | q | q
        · rw [oIn_lo q, oIn_lo q, oIn_lo q, oIn_lo q]
          obtain ⟨b1, b2, b3, b4⟩ := hold k (by omega)
          exact ⟨b1, rfl, b2, b3, b4⟩
        · rw [q, oIn_at, oIn_at, oIn_at, oIn_at]
          refine ⟨by omega, rfl, fun i' hi' => ?_, ?_, ?_⟩
          · rw [ox_up_ne (by decide), ox_up_ne (by decide), ox_up_ne (by decide)]
            exact t3 i' hi'
          · rw [ox_up_ne (by decide), ox_up_ne (by decide), ox_up_at, if_pos rfl]
            rfl
          · rw [ox_up_ne (by decide), ox_up_at, if_pos rfl]
        · rw [oIn_hi q, oIn_hi q, oIn_hi q, oIn_hi q]
          obtain ⟨b1, b2, b3, b4⟩ := hold (k - 1) (by omega)
          exact ⟨b1, rfl, b2, b3, b4⟩
    | succ d ih =>
      intro i low x3 τ hi hlow t1 t2 t3 t4 t5 t6 t7 hlo hhi
      have t7' : τ 7 = σ 7 := t1 7 (by decide)
      refine oT_N 4 rfl (oT_le R i (by rw [t7']; exact hR) rfl (by omega) (by omega) (fun q => by omega) (fun _ => ?_))
      refine oT_N 11 rfl (oT_I (o := 62) (n := nI i) rfl (Or.inl ⟨rfl, by decide⟩) (ox_ix (N := 12) (by omega) (by decide)) ?_)
      rw [nI_clamp (show i < 2 ^ 31 by omega)]
      have e20 : (Int8.ofInt 12).toInt32 * τ 7 20 + nI i = nI (12 * m + i) := by rw [t7', h20]; exact ox_i2 m i
      refine oT_Is (o := 59) (n := (Int8.ofInt 12).toInt32 * τ 7 20 + nI i) (x := τ 62 i) rfl ⟨rfl, by decide⟩ (by rw [e20]; exact ox_ix (N := 60000) (by omega) (by decide)) ?_
      rw [e20, nI_clamp (show 12 * m + i < 2 ^ 31 by omega)]
      have e := ih (i + 1) low x3 (ox_up τ 59 (12 * m + i) (τ 62 i)) (by omega) hlow (fun o ho => by rw [ox_up_ne (by omega)]; exact t1 o ho) (fun j hj => by rw [ox_up_ne (by decide)]; exact t2 j hj) (fun j hj => by
        rw [ox_up_at]
        by_cases q : j = i
        · rw [if_pos (by omega), q]; exact t2 i (by omega)
        · rw [if_neg (by omega)]; exact t3 j (by omega)) (fun q hq => by rw [ox_up_at, if_neg (by omega)]; exact t4 q hq) (fun k hk => by rw [ox_up_ne (by decide)]; exact t5 k hk) (by rw [ox_up_ne (by decide)]; exact t6) (by rw [ox_up_ne (by decide)]; exact t7) hlo hhi
      rw [← ox_inc i] at e
      exact oT_N 2 rfl e
  -- the shift
  have shift : ∀ (d low : Nat) (x3 : Int32) (τ : ox_S), low + d ≤ m → (∀ o, o < 58 ∨ 62 < o → τ o = σ o) → (∀ j, j < R → τ 62 j = vec X j) → τ 59 = σ 59 → (∀ k, k ≤ low + d → k < m → τ 58 k = nI (ρ k)) → (∀ k, low + d < k → k < m + 1 → τ 58 k = nI (ρ (k - 1))) → τ 60 = σ 60 → τ 61 = σ 61 → (∀ k, k < low → oLx R (V k) (vec X)) → (∀ k, low ≤ k → k < m → oLx R (vec X) (V k)) →
      oT L (k + 1) 80 136 [some (.ref 7), some (.int (nI X)), some (.int (nI low)), some (.int x3), some (.int (nI (low + d)))] [] τ (fun o σ' => o = .inl none ∧ oTk σ σ' R al vec (X + 1)) := by
    intro d
    induction d with
    | zero =>
      intro low x3 τ hlow t1 t2 t3 t4 t5 t6 t7 hlo hhi
      have t7' : τ 7 = σ 7 := t1 7 (by decide)
      refine oT_N 3 rfl (oT_le low low rfl rfl (by omega) (by omega) (fun _ => ?_) (fun q => by omega))
      refine oT_N 5 rfl (oT_Is (o := 58) (n := nI low) (x := τ 7 20) rfl ⟨rfl, by decide⟩ (ox_ix (N := 5000) (by omega) (by decide)) ?_)
      rw [nI_clamp (show low < 2 ^ 31 by omega), t7', h20]
      exact oT_N 2 rfl (vals R 0 low x3 (ox_up τ 58 low (nI m)) (by omega) hlow (fun o ho => by rw [ox_up_ne (by omega)]; exact t1 o ho) (fun j hj => by rw [ox_up_ne (by decide)]; exact t2 j hj) (fun j hj => by omega) (fun q hq => by rw [ox_up_ne (by decide), t3]) (fun k hk => by
        rw [ox_up_at]
        rcases Nat.lt_trichotomy k low with q | q | q
        · rw [if_neg (by omega), oIn_lo q]; exact t4 k (by omega) (by omega)
        · rw [if_pos q, q, oIn_at]
        · rw [if_neg (by omega), oIn_hi q]; exact t5 k (by omega) hk) (by rw [ox_up_ne (by decide)]; exact t6) (by rw [ox_up_ne (by decide)]; exact t7) hlo hhi)
    | succ d ih =>
      intro low x3 τ hlow t1 t2 t3 t4 t5 t6 t7 hlo hhi
      refine oT_N 3 rfl (oT_le (low + (d + 1)) low rfl rfl (by omega) (by omega) (fun q => by omega) (fun _ => ?_))
      have e1 : nI (low + (d + 1)) - Int32.ofInt 1 = nI (low + d) := ox_sb1 (low + d)
      refine oT_N 8 rfl (oT_I (o := 58) (n := nI (low + (d + 1)) - Int32.ofInt 1) rfl (Or.inl ⟨rfl, by decide⟩) (by rw [e1]; exact ox_ix (N := 5000) (by omega) (by decide)) ?_)
      rw [e1, nI_clamp (show low + d < 2 ^ 31 by omega), t4 (low + d) (by omega) (by omega)]
      refine oT_Is (o := 58) (n := nI (low + (d + 1))) (x := nI (ρ (low + d))) rfl ⟨rfl, by decide⟩ (ox_ix (N := 5000) (by omega) (by decide)) ?_
      rw [nI_clamp (show low + (d + 1) < 2 ^ 31 by omega)]
      have e := ih low x3 (ox_up τ 58 (low + (d + 1)) (nI (ρ (low + d)))) (by omega) (fun o ho => by rw [ox_up_ne (by omega)]; exact t1 o ho) (fun j hj => by rw [ox_up_ne (by decide)]; exact t2 j hj) (by rw [ox_up_ne (by decide)]; exact t3) (fun k q1 q2 => by rw [ox_up_at, if_neg (by omega)]; exact t4 k (by omega) q2) (fun k q1 q2 => by
        rw [ox_up_at]
        by_cases q : k = low + (d + 1)
        · rw [if_pos q, q]
          rfl
        · rw [if_neg q]; exact t5 k (by omega) q2) (by rw [ox_up_ne (by decide)]; exact t6) (by rw [ox_up_ne (by decide)]; exact t7) hlo hhi
      rw [← ox_dec (low + d)] at e
      exact oT_N 2 rfl e
  -- the search
  have srch : ∀ (d low high : Nat) (l4 : Option Value) (τ : ox_S), high - low ≤ d → low ≤ high → high ≤ m → (∀ o, o ≠ 62 → τ o = σ o) → (∀ j, j < R → τ 62 j = vec X j) → (∀ k, k < low → oLx R (V k) (vec X)) → (∀ k, high ≤ k → k < m → oQ R (V k) (vec X) = true ∨ oLx R (vec X) (V k)) →
      oT L (k + 1) 80 53 [some (.ref 7), some (.int (nI X)), some (.int (nI low)), some (.int (nI high)), l4] [] τ (fun o σ' => o = .inl none ∧ oTk σ σ' R al vec (X + 1)) := by
    intro d
    induction d with
    | zero =>
      intro low high l4 τ hd hlh hhm t1 t2 hlo hhi
      obtain rfl : low = high := by omega
      have t7' : τ 7 = σ 7 := t1 7 (by decide)
      have go : (∀ k, low ≤ k → k < m → oLx R (vec X) (V k)) → oT L (k + 1) 80 130 [some (.ref 7), some (.int (nI X)), some (.int (nI low)), some (.int (nI low)), l4] [] τ (fun o σ' => o = .inl none ∧ oTk σ σ' R al vec (X + 1)) := fun hh => by
        have e := shift (m - low) low (nI low) τ (by omega) (fun o ho => t1 o (by omega)) t2 (t1 59 (by decide)) (fun k _ hk => by rw [t1 58 (by decide)]; exact (rows k hk).2.1) (fun k q1 q2 => by omega) (t1 60 (by decide)) (t1 61 (by decide)) hlo hh
        rw [show low + (m - low) = m by omega, ← h20, ← t7'] at e
        exact oT_N 3 rfl e
      refine oT_N 3 rfl (oT_le low low rfl rfl (by omega) (by omega) (fun _ => ?_) (fun q => by omega))
      refine oT_N 4 rfl (oT_le m low (by rw [t7']; exact h20) rfl (by omega) (by omega) (fun q => go (fun k q1 q2 => by omega)) (fun q => ?_))
      obtain ⟨a1, a2, a3, a4, a5⟩ := rows low q
      refine oT_N 4 rfl (oT_I (o := 58) (n := nI low) rfl (Or.inl ⟨rfl, by decide⟩) (ox_ix (N := 5000) (by omega) (by decide)) ?_)
      rw [nI_clamp (show low < 2 ^ 31 by omega), t1 58 (by decide), a2]
      refine oT_V rfl rfl rfl rfl (by omega) (by omega) (ot_compare (R := R) (r := ρ low) (by rw [t7']; exact hR) hR12 (by omega)) (fun x σ2 h => by obtain ⟨-, c, h, -⟩ := h; cases h) (fun v σ2 hv => ?_)
      obtain ⟨rfl, c0, hv, hc⟩ := hv
      cases hv
      have eV : oQ R (fun i => σ2 59 (12 * ρ low + i)) (V low) = true := oQ_iff.mpr (fun i hi => by show σ2 59 _ = _; rw [t1 59 (by decide)]; exact a3 i hi)
      have eX : oQ R (σ2 62) (vec X) = true := oQ_iff.mpr t2
      refine oT_N 1 rfl (oT_If (fun (q0 : c0 = 0) => ?_) (fun (q0 : ¬ c0 = 0) => go ?_))
      · subst q0
        have hq : oQ R (vec X) (V low) = true := by
          rcases hc with ⟨e, _⟩ | ⟨_, e⟩ | ⟨e, _⟩
          · exact absurd e (by decide)
          · exact oQ_tr (oQ_sym eX) (oQ_tr (oQ_sym e) eV)
          · exact absurd e (by decide)
        refine oT_N 5 rfl (oT_I (o := 58) (n := nI low) rfl (Or.inl ⟨rfl, by decide⟩) (ox_ix (N := 5000) (by omega) (by decide)) ?_)
        rw [nI_clamp (show low < 2 ^ 31 by omega), t1 58 (by decide), a2]
        refine oT_N 1 rfl (oT_I (o := 60) (n := nI (ρ low)) rfl (Or.inl ⟨rfl, by decide⟩) (ox_ix (N := 5000) (by omega) (by decide)) ?_)
        rw [nI_clamp (show ρ low < 2 ^ 31 by omega), t1 60 (by decide), a4]
        refine oT_N 2 rfl (oT_Is (o := 60) (n := nI (ρ low)) (x := nI (c low) + Int32.ofInt 1) rfl ⟨rfl, by decide⟩ (ox_ix (N := 5000) (by omega) (by decide)) ?_)
        rw [nI_clamp (show ρ low < 2 ^ 31 by omega), ox_inc]
        refine oT_Retv rfl rfl ⟨rfl, fun o ho => by rw [ox_up_ne (by omega)]; exact t1 o (by omega), fun q hq => by rw [ox_up_ne (by decide), t7'], m, ρ, V, _, f, oLm_hit lm ha q hq, by omega, by rw [ox_up_ne (by decide), t7']; exact h20, fun k' hk' => ?_⟩
        obtain ⟨b1, b2, b3, b4, b5⟩ := rows k' hk'
        refine ⟨b1, by rw [ox_up_ne (by decide), t1 58 (by decide)]; exact b2, fun i hi => by rw [ox_up_ne (by decide), t1 59 (by decide)]; exact b3 i hi, ?_, by rw [ox_up_ne (by decide), t1 61 (by decide)]; exact b5⟩
        rw [ox_up_at]
        show _ = nI (if k' = low then c k' + 1 else c k')
        by_cases e : k' = low
        · rw [if_pos (by rw [e]), if_pos e, e]
        · rw [if_neg (fun e2 => e (hρ k' low hk' q e2)), if_neg e, t1 60 (by decide)]; exact b4
      · have hl0 : oLx R (vec X) (V low) := by
          rcases hhi low (Nat.le_refl _) q with e | e
          · rcases hc with ⟨_, e2⟩ | ⟨e2, _⟩ | ⟨_, e2⟩
            · exact absurd (oLx_ext eV eX e2) (oLx_irr e)
            · exact absurd e2 q0
            · exact absurd (oLx_ext eX eV e2) (oLx_irr (oQ_sym e))
          · exact e
        intro k' q1 q2
        rcases Nat.lt_or_ge low k' with r | r
        · exact oLx_trans hl0 (lm.1 low k' r q2)
        · obtain rfl : k' = low := by omega
          exact hl0
    | succ d ih =>
      intro low high l4 τ hd hlh hhm t1 t2 hlo hhi
      rcases Nat.lt_or_ge low high with hlt | hge
      · have t7' : τ 7 = σ 7 := t1 7 (by decide)
        refine oT_N 3 rfl (oT_le high low rfl rfl (by omega) (by omega) (fun q => by omega) (fun _ => ?_))
        refine oT_N 4 rfl (oT_Div (x := nI low + nI high) (y := Int32.ofInt 2) rfl (by decide) ?_)
        rw [nI_add, show Int32.ofInt 2 = nI 2 from rfl, pk_div (by omega) (by decide) (by decide)]
        have hmid : (low + high) / 2 < high ∧ low ≤ (low + high) / 2 := ⟨by omega, by omega⟩
        generalize (low + high) / 2 = mid at hmid
        obtain ⟨hm1, hm2⟩ := hmid
        obtain ⟨a1, a2, a3, a4, a5⟩ := rows mid (by omega)
        refine oT_N 5 rfl (oT_I (o := 58) (n := nI mid) rfl (Or.inl ⟨rfl, by decide⟩) (ox_ix (N := 5000) (by omega) (by decide)) ?_)
        rw [nI_clamp (show mid < 2 ^ 31 by omega), t1 58 (by decide), a2]
        refine oT_V rfl rfl rfl rfl (by omega) (by omega) (ot_compare (R := R) (r := ρ mid) (by rw [t7']; exact hR) hR12 (by omega)) (fun x σ2 h => by obtain ⟨-, c, h, -⟩ := h; cases h) (fun v σ2 hv => ?_)
        obtain ⟨rfl, c0, hv, hc⟩ := hv
        cases hv
        have eV : oQ R (fun i => σ2 59 (12 * ρ mid + i)) (V mid) = true := oQ_iff.mpr (fun i hi => by show σ2 59 _ = _; rw [t1 59 (by decide)]; exact a3 i hi)
        have eX : oQ R (σ2 62) (vec X) = true := oQ_iff.mpr t2
        refine oT_N 1 rfl (oT_If (fun (q0 : 0 ≤ c0) => ?_) (fun (q0 : ¬ 0 ≤ c0) => ?_))
        · have hw : oQ R (V mid) (vec X) = true ∨ oLx R (vec X) (V mid) := by
            rcases hc with ⟨e2, _⟩ | ⟨_, e2⟩ | ⟨_, e2⟩
            · rw [e2] at q0; exact absurd q0 (by decide)
            · exact Or.inl (oQ_tr (oQ_sym eV) (oQ_tr e2 eX))
            · exact Or.inr (oLx_ext eX eV e2)
          refine oT_N 3 rfl (ih low mid (some (.int (nI mid))) σ2 (by omega) (by omega) (by omega) t1 t2 hlo (fun k' q1 q2 => ?_))
          rcases Nat.lt_or_ge mid k' with r | r
          · have e3 := lm.1 mid k' r q2
            rcases hw with e | e
            · exact Or.inr (oLx_ext e oQ_rf e3)
            · exact Or.inr (oLx_trans e e3)
          · obtain rfl : k' = mid := by omega
            exact hw
        · have hw : oLx R (V mid) (vec X) := by
            rcases hc with ⟨_, e2⟩ | ⟨e2, _⟩ | ⟨e2, _⟩
            · exact oLx_ext eV eX e2
            · rw [e2] at q0; exact absurd (by decide) q0
            · rw [e2] at q0; exact absurd (by decide) q0
          have e := ih (mid + 1) high (some (.int (nI mid))) σ2 (by omega) (by omega) (by omega) t1 t2 (fun k' q1 => by
            rcases Nat.lt_or_ge k' mid with r | r
            · exact oLx_trans (lm.1 k' mid r (by omega)) hw
            · obtain rfl : k' = mid := by omega
              exact hw) hhi
          rw [← ox_inc mid] at e
          exact oT_N 6 rfl e
      · exact ih low high l4 τ (by omega) hlh hhm t1 t2 hlo hhi
  -- the values read
  refine oT_N 2 rfl ?_
  have now : ∀ (d i : Nat) (τ : ox_S), i + d = R → (∀ o, o ≠ 62 → τ o = σ o) → (∀ j, j < i → τ 62 j = vec X j) → oT L (k + 1) 80 2 [some (.ref 7), some (.int (nI X)), some (.int (nI i)), none, none] [] τ (fun o σ' => o = .inl none ∧ oTk σ σ' R al vec (X + 1)) := by
    intro d
    induction d with
    | zero =>
      intro i τ hi t1 t2
      obtain rfl : i = R := by omega
      have t7' : τ 7 = σ 7 := t1 7 (by decide)
      refine oT_N 4 rfl (oT_le i i (by rw [t7']; exact hR) rfl (by omega) (by omega) (fun _ => ?_) (fun q => by omega))
      have e := srch m 0 m none τ (by omega) (by omega) (by omega) t1 t2 (fun k q => by omega) (fun k q1 q2 => by omega)
      rw [← h20, ← t7'] at e
      exact oT_N 5 rfl e
    | succ d ih =>
      intro i τ hi t1 t2
      have t7' : τ 7 = σ 7 := t1 7 (by decide)
      have n12 : ¬ (nI i < 0 ∨ 12 ≤ (nI i).toNatClampNeg) := ox_ix (by omega) (by decide)
      have hic : (nI i).toNatClampNeg = i := nI_clamp (by omega)
      have hset : oT L (k + 1) 80 40 [some (.ref 7), some (.int (nI X)), some (.int (nI i)), none, none] [] (ox_up τ 62 i (vec X i)) (fun o σ' => o = .inl none ∧ oTk σ σ' R al vec (X + 1)) := by
        have e := ih (i + 1) (ox_up τ 62 i (vec X i)) (by omega) (fun o ho => by rw [ox_up_ne ho]; exact t1 o ho) (fun j hj => by
          rw [ox_up_at]
          by_cases q : j = i
          · rw [if_pos q, q]
          · rw [if_neg q]; exact t2 j (by omega))
        rw [← ox_inc i] at e
        exact oT_N 2 rfl e
      refine oT_N 4 rfl (oT_le R i (by rw [t7']; exact hR) rfl (by omega) (by omega) (fun q => by omega) (fun _ => ?_))
      refine oT_N 6 rfl (oT_I (o := 52) (n := nI i) rfl (Or.inl ⟨rfl, by decide⟩) n12 ?_)
      rw [hic, t1 52 (by decide)]
      rcases hs i (by omega) with ⟨s1, s2⟩ | ⟨e, s1, s2, s3⟩
      · rw [s1]
        refine oT_N 1 rfl (oT_If (fun q => absurd q (by decide)) (fun _ => ?_))
        refine oT_N 2 rfl (oT_Is (o := 62) (n := nI i) (x := 0) rfl ⟨rfl, by decide⟩ n12 ?_)
        rw [hic, ← s2]
        exact hset
      · rw [s2]
        refine oT_N 1 rfl (oT_le 0 e rfl rfl (by decide) (by omega) (fun _ => ?_) (fun q => by omega))
        refine oT_N 5 rfl (oT_I (o := 52) (n := nI i) rfl (Or.inl ⟨rfl, by decide⟩) n12 ?_)
        rw [hic, t1 52 (by decide), s2]
        refine oT_I (o := 46) (n := nI e) rfl (Or.inl ⟨rfl, by decide⟩) (ox_ix (N := 12) (by omega) (by decide)) ?_
        rw [nI_clamp (show e < 2 ^ 31 by omega), t1 46 (by decide), s3]
        refine oT_Is (o := 62) (n := nI i) (x := vec X i) rfl ⟨rfl, by decide⟩ n12 ?_
        rw [hic]
        exact hset
  exact now R 0 σ (by omega) (fun _ _ => rfl) (fun j hj => by omega)
