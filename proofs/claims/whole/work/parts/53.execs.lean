theorem oRw_72 : ∀ p, p < 4 → oRw (72 + p) ∧ oRw (125 + p) := by
  unfold oRw
  decide
theorem oCn_cut {f g : Nat → Bool} {n : Nat} : ∀ N, n ≤ N → (∀ b, b < N → f b = (decide (b < n) && g b)) → oCn f N = oCn g n := by
  intro N
  induction N with
  | zero =>
    intro hn h
    obtain rfl : n = 0 := by omega
    rfl
  | succ N ih =>
    intro hn h
    rcases Nat.lt_or_ge N n with q | q
    · obtain rfl : n = N + 1 := by omega
      exact oCn_ext _ (fun j hj => by rw [h j hj, decide_eq_true hj, Bool.true_and])
    · simp only [oCn]
      rw [ih q (fun b hb => h b (by omega)), h N (by omega), decide_eq_false (by omega)]
      rfl
theorem oKt_cut {f g : Nat → Bool} {n N j : Nat} (hn : n ≤ N) (h : ∀ b, b < N → f b = (decide (b < n) && g b)) (hj : j < oCn g n) : oKt f N j = oKt g n j := by
  obtain ⟨e1, e2, e3⟩ := oKt_sp n hj
  have hf : ∀ b, b < n → f b = g b := fun b hb => by rw [h b (by omega), decide_eq_true hb, Bool.true_and]
  have := oKt_of (f := f) (n := N) (e := oKt g n j) (by omega) (by rw [hf _ e1]; exact e2)
  rw [oCn_ext (oKt g n j) (fun b hb => hf b (by omega)), e3] at this
  exact this
/-- which rows a pair of events goes into -/
def oPc (P : oPr) (fe : Bool) (a b r : Nat) : Prop := (r = 7 ∧ fe = true) ∨ (r = 5 ∧ P.pl a = P.pl b) ∨ r = 8 + 2 * P.kd a + P.kd b
def oGb (P : oPr) (r a y : Nat) : Prop := oPg P a y = true ∧ (r = 0 ∨ (P.kd a ≠ 2 ∧ P.kd y ≠ 2 ∧ oPc P (oFn P a y) a y r))
theorem oGb_gv {P : oPr} {σ : ox_S} {r a b : Nat} (hP : P.ok) (ha : a < P.n) (hb : b < P.n) (hr : r < 12) (hr2 : r = 0 ∨ r = 5 ∨ 7 ≤ r) : oGb P r a b ↔ oGv P σ r a b = true := by
  have ka := (hP.2.2 a ha).2.1
  have kb := (hP.2.2 b hb).2.1
  unfold oGb oPc
  rcases Nat.lt_or_ge r 8 with q | q
  · have hc : r = 0 ∨ r = 5 ∨ r = 7 := by omega
    rcases hc with rfl | rfl | rfl
    · simp [oGv]
    · simp only [oGv, oAl, Bool.and_eq_true, decide_eq_true_eq]
      constructor
      · rintro ⟨h1, h2 | ⟨h2, h3, h4⟩⟩
        · omega
        · rcases h4 with h4 | h4 | h4
          · omega
          · exact ⟨h1, ⟨h2, h3⟩, h4.2⟩
          · omega
      · rintro ⟨h1, ⟨h2, h3⟩, h4⟩
        exact ⟨h1, Or.inr ⟨h2, h3, Or.inr (Or.inl ⟨by trivial, h4⟩)⟩⟩
    · simp only [oGv, Bool.and_eq_true, decide_eq_true_eq]
      constructor
      · rintro ⟨h1, h2 | ⟨h2, h3, h4⟩⟩
        · omega
        · rcases h4 with h4 | h4 | h4
          · exact ⟨h1, ⟨h4.2, h2⟩, h3⟩
          · omega
          · omega
      · rintro ⟨h1, ⟨h2, h3⟩, h4⟩
        exact ⟨h1, Or.inr ⟨h3, h4, Or.inl ⟨by trivial, h2⟩⟩⟩
  · have e : oGv P σ r a b = (oPg P a b && decide (P.kd a = (r - 8) / 2) && decide (P.kd b = (r - 8) % 2)) := by
      unfold oGv
      split <;> first | omega | rfl
    rw [e]
    simp only [Bool.and_eq_true, decide_eq_true_eq]
    constructor
    · rintro ⟨h1, h2 | ⟨h2, h3, h4⟩⟩
      · omega
      · rcases h4 with h4 | h4 | h4
        · omega
        · omega
        · exact ⟨⟨h1, by omega⟩, by omega⟩
    · rintro ⟨⟨h1, h2⟩, h3⟩
      exact ⟨h1, Or.inr ⟨by omega, by omega, Or.inr (Or.inr (by omega))⟩⟩
theorem ox_k8 (a b : Nat) : (Int8.ofInt 8).toInt32 + Int32.ofInt 2 * nI a + nI b = nI (8 + 2 * a + b) := by
  show nI 8 + nI 2 * nI a + nI b = _
  rw [pk_mul, nI_add, nI_add]
