theorem oPh : ∀ (n : Nat) (g : Nat → Nat), (∀ i, i ≤ n → g i < n) → ∃ i k, i < k ∧ k ≤ n ∧ g i = g k
  | 0, g, h => absurd (h 0 (Nat.le_refl 0)) (by omega)
  | n + 1, g, h => by
    by_cases hx : ∃ i, i < n + 1 ∧ g i = g (n + 1)
    · obtain ⟨i, h1, h2⟩ := hx
      exact ⟨i, n + 1, h1, Nat.le_refl _, h2⟩
    · have hne : ∀ i, i < n + 1 → g i ≠ g (n + 1) := fun i hi q => hx ⟨i, hi, q⟩
      obtain ⟨i, k, h1, h2, h3⟩ := oPh n (fun i => if g i = n then g (n + 1) else g i) (fun i hi => by
        show (if g i = n then g (n + 1) else g i) < n
        have a1 := h i (by omega)
        have a2 := h (n + 1) (by omega)
        have a3 := hne i (by omega)
        by_cases q : g i = n
        · rw [if_pos q]; omega
        · rw [if_neg q]; omega)
      have h3' : (if g i = n then g (n + 1) else g i) = (if g k = n then g (n + 1) else g k) := h3
      have a1 := hne i (by omega)
      have a2 := hne k (by omega)
      refine ⟨i, k, h1, by omega, ?_⟩
      by_cases q1 : g i = n <;> by_cases q2 : g k = n
      · omega
      · rw [if_pos q1, if_neg q2] at h3'
        exact absurd h3'.symm a2
      · rw [if_neg q1, if_pos q2] at h3'
        exact absurd h3' a1
      · rw [if_neg q1, if_neg q2] at h3'
        exact h3'
/-- where each member leads to a member there is a ring -/
theorem oRg_of {n x : Nat} {f : Nat → Nat → Bool} {l : Nat → Bool} (hx : x < n) (hl : l x = true) (hc : ∀ a, a < n → l a = true → ∃ c, c < n ∧ f a c = true ∧ l c = true) : oRg n f := by
  have hs : ∀ a, a < n → l a = true → oKt (fun c => f a c && l c) n 0 < n ∧ f a (oKt (fun c => f a c && l c) n 0) = true ∧ l (oKt (fun c => f a c && l c) n 0) = true := fun a ha h => by
    obtain ⟨c, c1, c2, c3⟩ := hc a ha h
    have h0 : 0 < oCn (fun c => f a c && l c) n := Nat.lt_of_le_of_lt (Nat.zero_le _) (oCn_lt (f := fun c => f a c && l c) c1 (by rw [c2, c3]; rfl))
    obtain ⟨k1, k2, -⟩ := oKt_sp n h0
    rw [Bool.and_eq_true] at k2
    exact ⟨k1, k2⟩
  have hg : ∃ g : Nat → Nat, g 0 = x ∧ ∀ i, g (i + 1) = oKt (fun c => f (g i) c && l c) n 0 := ⟨fun i => Nat.rec x (fun _ y => oKt (fun c => f y c && l c) n 0) i, rfl, fun i => rfl⟩
  obtain ⟨g, g0, gs⟩ := hg
  have hin : ∀ i, g i < n ∧ l (g i) = true := fun i => by
    induction i with
    | zero => rw [g0]; exact ⟨hx, hl⟩
    | succ i ih =>
      rw [gs]
      exact ⟨(hs _ ih.1 ih.2).1, (hs _ ih.1 ih.2).2.2⟩
  have hp : ∀ i j, oPt n f j (g i) (g (i + j)) := fun i j => by
    induction j with
    | zero => rfl
    | succ j ih => exact ⟨g (i + j), (hin _).1, ih, by
        rw [show i + (j + 1) = i + j + 1 by omega, gs]
        exact (hs _ (hin _).1 (hin _).2).2.1⟩
  obtain ⟨i, k, h1, h2, h3⟩ := oPh n g (fun i _ => (hin i).1)
  refine ⟨k - i, g i, by omega, by omega, (hin i).1, ?_⟩
  have := hp i (k - i)
  rw [show i + (k - i) = k by omega, ← h3] at this
  exact this
/-- a ring's events lead to each other -/
theorem oRg_core {n : Nat} {f : Nat → Nat → Bool} (h : oRg n f) : ∃ C : Nat → Prop, (∀ y, C y → y < n ∧ ∃ c, C c ∧ f y c = true) ∧ ∃ y, C y := by
  obtain ⟨j, x, h1, h2, h3, h4⟩ := h
  obtain ⟨j, rfl⟩ : ∃ j', j = j' + 1 := ⟨j - 1, by omega⟩
  refine ⟨fun y => y < n ∧ (∃ i, oPt n f i x y) ∧ ∃ i, oPt n f (i + 1) y x, fun y ⟨y1, ⟨i, y2⟩, i', y3⟩ => ⟨y1, ?_⟩, x, h3, ⟨0, rfl⟩, j, h4⟩
  obtain ⟨c, c1, c2, c3⟩ := oPt_fst i' y x h3 y3
  refine ⟨c, ⟨c1, ⟨i + 1, y, y1, y2, c2⟩, ?_⟩, c2⟩
  cases i' with
  | zero => exact ⟨j, by rw [show c = x from c3]; exact h4⟩
  | succ i' => exact ⟨i', c3⟩
theorem oCn_less {f g : Nat → Bool} {e : Nat} (hfg : ∀ j, g j = true → f j = true) (hf : f e = true) (hg : g e = false) : ∀ n, e < n → oCn g n < oCn f n := by
  have hle : ∀ n, oCn g n ≤ oCn f n := fun n => by
    induction n with
    | zero => exact Nat.le_refl _
    | succ n ih =>
      simp only [oCn]
      by_cases q : g n = true
      · rw [if_pos q, if_pos (hfg n q)]; omega
      · rw [if_neg q]; split <;> omega
  intro n
  induction n with
  | zero => intro h; omega
  | succ n ih =>
    intro h
    simp only [oCn]
    rcases Nat.lt_or_ge e n with q | q
    · have := ih q
      by_cases q2 : g n = true
      · rw [if_pos q2, if_pos (hfg n q2)]; omega
      · rw [if_neg q2]; split <;> omega
    · obtain rfl : e = n := by omega
      have := hle e
      rw [if_neg (by rw [hg]; decide), if_pos hf]
      omega
theorem oCn_zero {f : Nat → Bool} {n e : Nat} (h : oCn f n = 0) (he : e < n) : f e = false := by
  cases q : f e with
  | false => rfl
  | true =>
    have := oCn_lt he q
    omega
section OXY
variable {L k s n : Nat} {σ : ox_S}
set_option maxHeartbeats 1000000 in
theorem ot_hasRing (hs : oRw s) (hn : n ≤ 12) : oT L k 97 0 [some (.ref s), some (.int (nI n)), none, none, none, none] [] σ (fun o σ' => σ' = σ ∧ ∃ t : Bool, o = .inl (some (.int (if t then 1 else 0))) ∧ (t = true ↔ oRg n (oBr σ s))) := by
  refine oT_N 8 rfl ?_
  have none' : ∀ m : Int32, (∀ e, oBit m e = true → e < n) → (∀ e, e < n → oBit m e = false) → (∀ C : Nat → Prop, (∀ y, C y → y < n ∧ ∃ c, C c ∧ oBr σ s y c = true) → ∀ y, C y → oBit m y = true) → oT L k 97 68 [some (.ref s), some (.int (nI n)), some (.int m), none, none, none] [] σ (fun o σ' => σ' = σ ∧ ∃ t : Bool, o = .inl (some (.int (if t then 1 else 0))) ∧ (t = true ↔ oRg n (oBr σ s))) := fun m h1 h2 h3 =>
    oT_N 1 rfl (oT_Ret rfl rfl rfl ⟨rfl, false, rfl, fun q => (by cases q), fun q => (by
      obtain ⟨C, c1, y, c2⟩ := oRg_core q
      have := h3 C c1 y c2
      rw [h2 y (c1 y c2).1] at this
      cases this)⟩)
  have none2 : ∀ (m : Int32) (l3 l4 l5 : Option Value), (∀ e, e < n → oBit m e = false) → (∀ C : Nat → Prop, (∀ y, C y → y < n ∧ ∃ c, C c ∧ oBr σ s y c = true) → ∀ y, C y → oBit m y = true) → oT L k 97 68 [some (.ref s), some (.int (nI n)), some (.int m), l3, l4, l5] [] σ (fun o σ' => σ' = σ ∧ ∃ t : Bool, o = .inl (some (.int (if t then 1 else 0))) ∧ (t = true ↔ oRg n (oBr σ s))) := fun m l3 l4 l5 h2 h3 =>
    oT_N 1 rfl (oT_Ret rfl rfl rfl ⟨rfl, false, rfl, fun q => (by cases q), fun q => (by
      obtain ⟨C, c1, y, c2⟩ := oRg_core q
      have := h3 C c1 y c2
      rw [h2 y (c1 y c2).1] at this
      cases this)⟩)
  have rounds : ∀ (e r : Nat) (m : Int32) (l4 l5 : Option Value), r + e = n → (∀ e, oBit m e = true → e < n) → oCn (oBit m) n ≤ n - r → (∀ C : Nat → Prop, (∀ y, C y → y < n ∧ ∃ c, C c ∧ oBr σ s y c = true) → ∀ y, C y → oBit m y = true) → oT L k 97 8 [some (.ref s), some (.int (nI n)), some (.int m), some (.int (nI r)), l4, l5] [] σ (fun o σ' => σ' = σ ∧ ∃ t : Bool, o = .inl (some (.int (if t then 1 else 0))) ∧ (t = true ↔ oRg n (oBr σ s))) := by
    intro e
    induction e with
    | zero =>
      intro r m l4 l5 hr h1 h2 h3
      refine oT_N 3 rfl (oT_le n r rfl rfl (by omega) (by omega) (fun _ => ?_) (fun q => by omega))
      exact none2 m _ _ _ (fun e he => oCn_zero (by omega) he) h3
    | succ e ih =>
      intro r m l4 l5 hr h1 h2 h3
      refine oT_N 3 rfl (oT_le n r rfl rfl (by omega) (by omega) (fun q => by omega) (fun _ => ?_))
      refine oT_N 2 rfl (oT_If (fun (q : m = 0) => ?_) (fun (q : ¬ m = 0) => ?_))
      · exact none2 m _ _ _ (fun e _ => by rw [q]; exact oBit_0 e) h3
      · have peel : ∀ (a : Nat) (m' : Int32), a ≤ n → (∀ e, oBit m' e = true → oBit m e = true) → (∀ C : Nat → Prop, (∀ y, C y → y < n ∧ ∃ c, C c ∧ oBr σ s y c = true) → ∀ y, C y → oBit m' y = true) → (m' = m → ∀ x, a ≤ x → x < n → oBit m x = true → ∃ c, c < n ∧ oBr σ s x c = true ∧ oBit m c = true) → oT L k 97 25 [some (.ref s), some (.int (nI n)), some (.int m'), some (.int (nI r)), some (.int m), some (.int (nI a + Int32.ofInt (-1)))] [] σ (fun o σ' => σ' = σ ∧ ∃ t : Bool, o = .inl (some (.int (if t then 1 else 0))) ∧ (t = true ↔ oRg n (oBr σ s))) := by
          intro a
          induction a with
          | zero =>
            intro m' ha g1 g2 g3
            refine oT_N 2 rfl (oT_If (fun _ => ?_) (fun (q : ¬ nI 0 + Int32.ofInt (-1) < 0) => absurd ox_dc0 q))
            refine oT_N 3 rfl (oT_If (fun (q2 : m' = m) => ?_) (fun (q2 : ¬ m' = m) => ?_))
            · refine oT_N 1 rfl (oT_Ret rfl rfl rfl ⟨rfl, true, rfl, fun _ => ?_, fun _ => rfl⟩)
              have hx : ∃ x, x < n ∧ oBit m x = true := Classical.byContradiction (fun q3 => q (oBit_ext (fun b _ => by
                rw [oBit_0]
                cases q4 : oBit m b with
                | false => rfl
                | true => exact absurd ⟨b, h1 b q4, q4⟩ q3)))
              obtain ⟨x, x1, x2⟩ := hx
              exact oRg_of x1 x2 (fun a ha hl => g3 q2 a (Nat.zero_le _) ha hl)
            · have hx : ∃ x, oBit m x = true ∧ oBit m' x = false := Classical.byContradiction (fun q3 => q2 (oBit_ext (fun b _ => by
                cases q4 : oBit m' b with
                | true => rw [g1 b q4]
                | false =>
                  cases q5 : oBit m b with
                  | false => rfl
                  | true => exact absurd ⟨b, q5, q4⟩ q3)))
              obtain ⟨x, x1, x2⟩ := hx
              have hlt := oCn_less g1 x1 x2 n (h1 x x1)
              have e9 := ih (r + 1) m' (some (.int m)) (some (.int (nI 0 + Int32.ofInt (-1)))) (by omega) (fun e he => h1 e (g1 e he)) (by omega) g2
              rw [← ox_inc r] at e9
              exact oT_N 2 rfl e9
          | succ a iha =>
            intro m' ha g1 g2 g3
            rw [ox_dec]
            have hca : (nI a).toNatClampNeg = a := nI_clamp (by omega)
            refine oT_N 2 rfl (oT_lt a 0 rfl rfl (by omega) (by decide) (fun q => by omega) (fun _ => ?_))
            refine oT_N 2 rfl (oT_I (o := s) (n := nI a) rfl (Or.inl ⟨hs.1, hs.2.1⟩) (ox_ixL hs.2.1 hs.2.2 (by omega) (by decide)) ?_)
            rw [hca]
            refine oT_N 3 rfl (oT_If (fun (q2 : σ s a &&& m' = 0) => ?_) (fun (q2 : ¬ σ s a &&& m' = 0) => ?_))
            · rw [oBit_and0] at q2
              have hb : ∀ e, oBit (m' &&& (o1 a ^^^ Int32.ofInt (-1))) e = (oBit m' e && decide (e ≠ a)) := fun e => by
                rw [oBit_and, oBit_no, oBit_1 (by omega)]
                rcases Nat.lt_or_ge e 32 with q3 | q3
                · rw [decide_eq_true q3, Bool.true_and]
                  by_cases q4 : e = a
                  · simp [q4]
                  · simp [q4]
                · rw [oBit_hi _ q3]
                  rfl
              have e9 := iha (m' &&& (o1 a ^^^ Int32.ofInt (-1))) (by omega) (fun e he => by
                rw [hb, Bool.and_eq_true] at he
                exact g1 e he.1) (fun C c1 y c2 => by
                rw [hb, g2 C c1 y c2, Bool.true_and, decide_eq_true_eq]
                rintro rfl
                obtain ⟨-, c, d1, d2⟩ := c1 y c2
                have d3 := g2 C c1 c d1
                have d4 := h1 c (g1 c d3)
                exact q2 c (by omega) ⟨d2, d3⟩) (fun q3 x x1 x2 x3 => by
                have hsame : m' = m := oBit_ext (fun b _ => by
                  have hb' := hb b
                  rw [q3] at hb'
                  cases q4 : oBit m' b with
                  | true => rw [g1 b q4]
                  | false =>
                    rw [q4] at hb'
                    rw [hb']
                    rfl)
                rcases Nat.lt_or_ge a x with q5 | q5
                · exact g3 hsame x q5 x2 x3
                · obtain rfl : x = a := by omega
                  have hb' := hb x
                  rw [q3, x3] at hb'
                  simp at hb')
              exact oT_N 10 rfl e9
            · have hex : ∃ b, b < 32 ∧ oBr σ s a b = true ∧ oBit m' b = true := Classical.byContradiction (fun q3 => q2 (oBit_and0.mpr (fun b hb q4 => q3 ⟨b, hb, q4⟩)))
              obtain ⟨b, b1, b2, b3⟩ := hex
              exact oT_N 2 rfl (iha m' (by omega) g1 g2 (fun q3 x x1 x2 x3 => by
                rcases Nat.lt_or_ge a x with q5 | q5
                · exact g3 q3 x q5 x2 x3
                · obtain rfl : x = a := by omega
                  exact ⟨b, h1 b (g1 b b3), b2, g1 b b3⟩))
        have e9 := peel n m (Nat.le_refl _) (fun e he => he) h3 (fun _ x x1 x2 => by omega)
        rw [← ox_sub1] at e9
        exact oT_N 6 rfl e9
  exact rounds n 0 _ none none (by omega) (fun e he => by
    rw [oBit_n hn, decide_eq_true_eq] at he
    exact he) (by have := oCn_le (oBit ((Int32.ofInt 1 <<< (nI n &&& 31)) - Int32.ofInt 1)) n; omega) (fun C c1 y c2 => by
    rw [oBit_n hn, decide_eq_true_eq]
    exact (c1 y c2).1)
end OXY
