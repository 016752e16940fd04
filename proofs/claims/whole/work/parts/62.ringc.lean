section OYI
variable {L k n r : Nat} {σ : ox_S}
/-- what 'stepsAround' leaves: the levels up to h -/
def oRc (σ : ox_S) (n : Nat) (f : Nat → Nat → Bool) (s h : Nat) : Prop := ∀ j, j ≤ h → ∀ a, oBit (σ 27 j) a = true ↔ a < n ∧ oPt n f j a s
set_option maxHeartbeats 1000000 in
theorem ot_stepsAround {s : Nat} (hr : oRw r) (hr27 : r ≠ 27) (hn : n ≤ 12) (hs : s < n) (hk : 2 ≤ k) (hk9 : k ≤ 9) : oT L k 30 0 [some (.ref 6), some (.ref r), some (.int (nI s)), some (.int (nI n)), none] [] σ (fun o σ' => ∃ m, o = .inl (some (.int (nI m))) ∧ m ≤ n ∧ (∀ o, o ≠ 27 → σ' o = σ o) ∧ (m = 0 → ∀ j, 1 ≤ j → j ≤ n → ¬ oPt n (oBr σ r) j s s) ∧ (1 ≤ m → oPt n (oBr σ r) m s s ∧ (∀ j, 1 ≤ j → j < m → ¬ oPt n (oBr σ r) j s s) ∧ oRc σ' n (oBr σ r) s m)) := by
  obtain ⟨k, rfl⟩ : ∃ k', k = k' + 1 := ⟨k - 1, by omega⟩
  refine oT_N 6 rfl (oT_Is (o := 27) (n := nI 0) (x := o1 s) rfl ⟨rfl, by decide⟩ (ox_ix (N := 13) (by decide) (by decide)) ?_)
  rw [show (nI 0).toNatClampNeg = 0 from rfl]
  have loop : ∀ (d j : Nat) (τ : ox_S), j + d = n → (∀ o, o ≠ 27 → τ o = σ o) → oRc τ n (oBr σ r) s j → (∀ j', 1 ≤ j' → j' ≤ j → ¬ oPt n (oBr σ r) j' s s) → oT L (k + 1) 30 12 [some (.ref 6), some (.ref r), some (.int (nI s)), some (.int (nI n)), some (.int (nI (j + 1)))] [] τ (fun o σ' => ∃ m, o = .inl (some (.int (nI m))) ∧ m ≤ n ∧ (∀ o, o ≠ 27 → σ' o = σ o) ∧ (m = 0 → ∀ j, 1 ≤ j → j ≤ n → ¬ oPt n (oBr σ r) j s s) ∧ (1 ≤ m → oPt n (oBr σ r) m s s ∧ (∀ j, 1 ≤ j → j < m → ¬ oPt n (oBr σ r) j s s) ∧ oRc σ' n (oBr σ r) s m)) := by
    intro d
    induction d with
    | zero =>
      intro j τ hj t1 t2 t3
      refine oT_N 3 rfl (oT_lt n (j + 1) rfl rfl (by omega) (by omega) (fun _ => ?_) (fun q => by omega))
      exact oT_N 1 rfl (oT_Ret rfl rfl rfl ⟨0, rfl, Nat.zero_le _, t1, fun _ j' q1 q2 => t3 j' q1 (by omega), fun q => by omega⟩)
    | succ d ih =>
      intro j τ hj t1 t2 t3
      have cj : (nI (j + 1)).toNatClampNeg = j + 1 := nI_clamp (by omega)
      have nj : ¬ (nI (j + 1) < 0 ∨ 13 ≤ (nI (j + 1)).toNatClampNeg) := ox_ix (by omega) (by decide)
      have ej : nI (j + 1) - Int32.ofInt 1 = nI j := ox_sb1 j
      refine oT_N 3 rfl (oT_lt n (j + 1) rfl rfl (by omega) (by omega) (fun q => by omega) (fun _ => ?_))
      refine oT_N 9 rfl (oT_I (o := 27) (n := nI (j + 1) - Int32.ofInt 1) rfl (Or.inl ⟨rfl, by decide⟩) (by rw [ej]; exact ox_ix (N := 13) (by omega) (by decide)) ?_)
      rw [ej, nI_clamp (by omega)]
      refine oT_N 1 rfl (oT_S rfl rfl rfl (by omega) (by omega) (ot_leadingInto (m := τ 27 j) (s := r) (n := n) hr hn) (fun x σ2 h => by obtain ⟨-, v, h, -⟩ := h; cases h) (fun v σ2 hv => ?_))
      obtain ⟨rfl, v, hv, hb⟩ := hv
      cases hv
      refine oT_Is (o := 27) (n := nI (j + 1)) (x := v) rfl ⟨rfl, by decide⟩ nj ?_
      rw [cj]
      have hbr : oBr σ2 r = oBr σ r := by funext a b; unfold oBr; rw [t1 r hr27]
      have lev : ∀ a, oBit v a = true ↔ a < n ∧ oPt n (oBr σ r) (j + 1) a s := fun a => by
        rw [hb a]
        constructor
        · rintro ⟨q1, b, q2, q3, q4⟩
          obtain ⟨q5, q6⟩ := (t2 j (Nat.le_refl _) b).mp q4
          rw [hbr] at q3
          exact ⟨q1, oPt_cons j a b s q1 q3 q6⟩
        · rintro ⟨q1, q2⟩
          obtain ⟨c, c1, c2, c3⟩ := oPt_fst j a s hs q2
          exact ⟨q1, c, by omega, by rw [hbr]; exact c2, (t2 j (Nat.le_refl _) c).mpr ⟨c1, c3⟩⟩
      have hrc : oRc (ox_up σ2 27 (j + 1) v) n (oBr σ r) s (j + 1) := fun j' hj' a => by
        rw [ox_up_at]
        by_cases e : j' = j + 1
        · rw [if_pos e, e]; exact lev a
        · rw [if_neg e]; exact t2 j' (by omega) a
      refine oT_N 3 rfl (oT_I (o := 27) (n := nI (j + 1)) rfl (Or.inl ⟨rfl, by decide⟩) nj ?_)
      rw [cj, ox_up_at, if_pos rfl]
      refine oT_N 5 rfl (oT_bit s (by omega) (fun q => ?_) (fun q => ?_))
      · have e := ih (j + 1) (ox_up σ2 27 (j + 1) v) (by omega) (fun o ho => by rw [ox_up_ne ho]; exact t1 o ho) hrc (fun j' q1 q2 => by
          rcases Nat.lt_or_ge j j' with q3 | q3
          · obtain rfl : j' = j + 1 := by omega
            intro q4
            rw [(lev s).mpr ⟨hs, q4⟩] at q
            cases q
          · exact t3 j' q1 q3)
        rw [← ox_inc (j + 1)] at e
        exact oT_N 2 rfl e
      · exact oT_N 1 rfl (oT_Ret rfl rfl rfl ⟨j + 1, rfl, by omega, fun o ho => by rw [ox_up_ne ho]; exact t1 o ho, fun q => by omega, fun _ => ⟨((lev s).mp q).2, fun j' q1 q2 => t3 j' q1 (by omega), hrc⟩⟩)
  exact oT_N 2 rfl (loop n 0 _ (by omega) (fun o ho => ox_up_ne ho) (fun j hj a => by
    obtain rfl : j = 0 := by omega
    rw [ox_up_at, if_pos rfl, oBit_1 (by omega), decide_eq_true_eq]
    exact ⟨fun q => ⟨by omega, q⟩, fun q => q.2⟩) (fun j' q1 q2 => by omega))
set_option maxHeartbeats 1000000 in
theorem ot_follow {m s : Nat} (hr : oRw r) (hr27 : r ≠ 27) (hr26 : r ≠ 26) (hn : n ≤ 12) (hs : s < n) (hm : 1 ≤ m) (hmn : m ≤ n) (h6 : σ 6 0 = nI m) (h26 : σ 26 0 = nI s) (hp : oPt n (oBr σ r) m s s) (hno : ∀ j, 1 ≤ j → j < m → ¬ oPt n (oBr σ r) j s s) (hfst : ∀ a, a < s → ¬ oPt n (oBr σ r) m a a) (hk : 3 ≤ k) (hk9 : k ≤ 9) : oT L k 31 0 [some (.ref 6), some (.ref r), some (.int (nI n)), none] [] σ (fun o σ' => o = .inl none ∧ (∀ o, o ≠ 26 → o ≠ 27 → σ' o = σ o) ∧ ∃ g, oWk n (oBr σ r) m g ∧ ∀ i, i < m → σ' 26 i = nI (g i)) := by
  obtain ⟨k, rfl⟩ : ∃ k', k = k' + 1 := ⟨k - 1, by omega⟩
  refine oT_N 5 rfl (oT_I (o := 26) (n := nI 0) rfl (Or.inl ⟨rfl, by decide⟩) (ox_ix (N := 12) (by decide) (by decide)) ?_)
  rw [show (nI 0).toNatClampNeg = 0 from rfl, h26]
  refine oT_N 1 rfl (oT_V rfl rfl rfl rfl (by omega) (by omega) (ot_stepsAround hr hr27 hn hs (by omega) (by omega)) (fun x σ2 h => by obtain ⟨m, h, -⟩ := h; cases h) (fun v σ2 hv => ?_))
  obtain ⟨m', hv, b1, b2, b3, b4⟩ := hv
  cases hv
  have em : m' = m := by
    rcases Nat.lt_or_ge m' 1 with q | q
    · exact absurd hp (b3 (by omega) m hm hmn)
    · obtain ⟨c1, c2, -⟩ := b4 q
      rcases Nat.lt_trichotomy m' m with e | e | e
      · exact absurd c1 (hno m' q e)
      · exact e
      · exact absurd hp (c2 m hm e)
  subst em
  obtain ⟨-, -, hrc⟩ := b4 hm
  have hbr : oBr σ2 r = oBr σ r := by funext a b; unfold oBr; rw [b2 r hr27]
  have loop : ∀ (d i : Nat) (g : Nat → Nat) (τ : ox_S), i + d = m' → 1 ≤ i → (∀ o, o ≠ 26 → τ o = σ2 o) → g 0 = s → (∀ j, j < i → g j < n ∧ oPt n (oBr σ r) (m' - j) (g j) s ∧ τ 26 j = nI (g j)) → (∀ j, j + 1 < i → oBr σ r (g j) (g (j + 1)) = true ∧ ∀ c, c < g (j + 1) → ¬ (oBr σ r (g j) c = true ∧ oPt n (oBr σ r) (m' - 1 - j) c s)) → oT L (k + 1) 31 15 [some (.ref 6), some (.ref r), some (.int (nI n)), some (.int (nI i))] [] τ (fun o σ' => o = .inl none ∧ (∀ o, o ≠ 26 → o ≠ 27 → σ' o = σ o) ∧ ∃ g, oWk n (oBr σ r) m' g ∧ ∀ i, i < m' → σ' 26 i = nI (g i)) := by
    intro d
    induction d with
    | zero =>
      intro i g τ hi h1 t1 g0 t2 t3
      obtain rfl : i = m' := by omega
      refine oT_N 4 rfl (oT_le i i (by rw [t1 6 (by decide), b2 6 (by decide)]; exact h6) rfl (by omega) (by omega) (fun _ => ?_) (fun q => by omega))
      refine oT_Retv rfl rfl ⟨rfl, fun o q1 q2 => by rw [t1 o q1, b2 o q2], g, ⟨⟨by rw [g0]; exact hs, by rw [g0]; exact hp, fun a ha => hfst a (by rw [← g0]; exact ha)⟩, fun j hj => ?_⟩, fun j hj => (t2 j hj).2.2⟩
      obtain ⟨e1, e2, -⟩ := t2 (j + 1) hj
      obtain ⟨e3, e4⟩ := t3 j hj
      rw [g0]
      exact ⟨e1, e3, by rw [show i - 1 - j = i - (j + 1) by omega]; exact e2, e4⟩
    | succ d ih =>
      intro i g τ hi h1 t1 g0 t2 t3
      obtain ⟨e1, e2, e3⟩ := t2 (i - 1) (by omega)
      refine oT_N 4 rfl (oT_le m' i (by rw [t1 6 (by decide), b2 6 (by decide)]; exact h6) rfl (by omega) (by omega) (fun q => by omega) (fun _ => ?_))
      have ei : nI i - Int32.ofInt 1 = nI (i - 1) := pk_sub (b := 1) h1
      refine oT_N 9 rfl (oT_I (o := 26) (n := nI i - Int32.ofInt 1) rfl (Or.inl ⟨rfl, by decide⟩) (by rw [ei]; exact ox_ix (N := 12) (by omega) (by decide)) ?_)
      rw [ei, nI_clamp (by omega), e3]
      refine oT_I (o := r) (n := nI (g (i - 1))) rfl (Or.inl ⟨hr.1, hr.2.1⟩) (ox_ixL hr.2.1 hr.2.2 (by omega) (by decide)) ?_
      rw [nI_clamp (by omega), t1 r hr26]
      have el : τ 6 0 - nI i = nI (m' - i) := by rw [t1 6 (by decide), b2 6 (by decide), h6, pk_sub (by omega)]
      refine oT_N 6 rfl (oT_I (o := 27) (n := τ 6 0 - nI i) rfl (Or.inl ⟨rfl, by decide⟩) (by rw [el]; exact ox_ix (N := 13) (by omega) (by decide)) ?_)
      rw [el, nI_clamp (by omega), t1 27 (by decide)]
      have bit : ∀ c, oBit (σ2 r (g (i - 1)) &&& σ2 27 (m' - i)) c = true ↔ oBr σ r (g (i - 1)) c = true ∧ c < n ∧ oPt n (oBr σ r) (m' - i) c s := fun c => by
        rw [oBit_and, Bool.and_eq_true, hrc (m' - i) (by omega) c, ← hbr]
        exact Iff.rfl
      rw [show m' - (i - 1) = m' - i + 1 by omega] at e2
      obtain ⟨c, c1, c2, c3⟩ := oPt_fst _ _ _ hs e2
      have hpos : 0 < oCn (oBit (σ2 r (g (i - 1)) &&& σ2 27 (m' - i))) 12 := Nat.lt_of_le_of_lt (Nat.zero_le _) (oCn_lt (show c < 12 by omega) ((bit c).mpr ⟨c2, c1, c3⟩))
      obtain ⟨w1, w2, w3⟩ := oKt_sp 12 hpos
      refine oT_N 2 rfl (oT_S rfl rfl rfl (by omega) (by omega) (ot_memberAt (j := 0) hpos) (fun x σ2 h => by cases h.1) (fun v σ3 hv => ?_))
      obtain ⟨hv, rfl⟩ := hv
      cases hv
      generalize hy : oKt (oBit (σ2 r (g (i - 1)) &&& σ2 27 (m' - i))) 12 0 = y at w1 w2 w3
      obtain ⟨y1, y2, y3⟩ := (bit y).mp w2
      refine oT_Is (o := 26) (n := nI i) (x := nI y) rfl ⟨rfl, by decide⟩ (ox_ix (N := 12) (by omega) (by decide)) ?_
      rw [nI_clamp (by omega)]
      have e := ih (i + 1) (fun j => if j < i then g j else y) (ox_up σ3 26 i (nI y)) (by omega) (by omega) (fun o ho => by rw [ox_up_ne ho]; exact t1 o ho) (by rw [if_pos (by omega)]; exact g0) (fun j hj => by
        rw [ox_up_at]
        by_cases q : j < i
        · rw [if_pos q, if_neg (by omega)]
          exact t2 j q
        · obtain rfl : j = i := by omega
          rw [if_neg q, if_pos rfl]
          exact ⟨y2, y3, rfl⟩) (fun j hj => by
        by_cases q : j + 1 < i
        · rw [if_pos (by omega), if_pos q]
          exact t3 j q
        · have hji : j = i - 1 := by omega
          subst hji
          rw [if_pos (by omega), if_neg q]
          refine ⟨y1, fun c' hc' q2 => ?_⟩
          have hz : oCn (oBit (σ2 r (g (i - 1)) &&& σ2 27 (m' - i))) c' = 0 := by
            have := oCn_mono (f := oBit (σ2 r (g (i - 1)) &&& σ2 27 (m' - i))) (Nat.le_of_lt hc')
            omega
          have hb : oBit (σ2 r (g (i - 1)) &&& σ2 27 (m' - i)) c' = true := (bit c').mpr ⟨q2.1, by omega, by rw [show m' - i = m' - 1 - (i - 1) by omega]; exact q2.2⟩
          have := oCn_lt hc' hb
          omega)
      rw [← ox_inc i] at e
      exact oT_N 2 rfl e
  refine oT_N 3 rfl (loop (m' - 1) 1 (fun _ => s) σ2 (by omega) (Nat.le_refl 1) (fun _ _ => rfl) rfl (fun j hj => ⟨hs, ?_, ?_⟩) (fun j hj => by omega))
  · rw [show m' - j = m' by omega]; exact hp
  · obtain rfl : j = 0 := by omega
    rw [b2 26 (by decide)]; exact h26
set_option maxHeartbeats 1000000 in
theorem ot_find (hr : oRw r) (hr27 : r ≠ 27) (hr26 : r ≠ 26) (hr6 : r ≠ 6) (hn : n ≤ 12) (hk : 4 ≤ k) (hk9 : k ≤ 9) : oT L k 29 0 [some (.ref 6), some (.ref r), some (.int (nI n)), none, none] [] σ (fun o σ' => o = .inl none ∧ (∀ o, o ≠ 6 → o ≠ 26 → o ≠ 27 → σ' o = σ o) ∧ ∃ m g, σ' 6 0 = nI m ∧ oSh n (oBr σ r) m ∧ (1 ≤ m → oWk n (oBr σ r) m g) ∧ ∀ i, i < m → σ' 26 i = nI (g i)) := by
  obtain ⟨k, rfl⟩ : ∃ k', k = k' + 1 := ⟨k - 1, by omega⟩
  refine oT_N 5 rfl ?_
  have loop : ∀ (d s m a0 : Nat) (τ : ox_S) (l4 : Option Value), s + d = n → (∀ o, o ≠ 6 → o ≠ 26 → o ≠ 27 → τ o = σ o) → τ 6 0 = nI m → ((m = 0 ∧ ∀ a, a < s → ∀ j, 1 ≤ j → j ≤ n → ¬ oPt n (oBr σ r) j a a) ∨ (1 ≤ m ∧ m ≤ n ∧ a0 < s ∧ τ 26 0 = nI a0 ∧ oPt n (oBr σ r) m a0 a0 ∧ (∀ a, a < s → ∀ j, 1 ≤ j → j < m → ¬ oPt n (oBr σ r) j a a) ∧ ∀ a, a < a0 → ¬ oPt n (oBr σ r) m a a)) → oT L (k + 1) 29 7 [some (.ref 6), some (.ref r), some (.int (nI n)), some (.int (nI s)), l4] [] τ (fun o σ' => o = .inl none ∧ (∀ o, o ≠ 6 → o ≠ 26 → o ≠ 27 → σ' o = σ o) ∧ ∃ m g, σ' 6 0 = nI m ∧ oSh n (oBr σ r) m ∧ (1 ≤ m → oWk n (oBr σ r) m g) ∧ ∀ i, i < m → σ' 26 i = nI (g i)) := by
    intro d
    induction d with
    | zero =>
      intro s m a0 τ l4 hs t1 t2 t3
      obtain rfl : s = n := by omega
      have hmn : m ≤ s := by rcases t3 with q | q <;> omega
      have hbr : oBr τ r = oBr σ r := by funext a b; unfold oBr; rw [t1 r hr6 hr26 hr27]
      refine oT_N 3 rfl (oT_le s s rfl rfl (by omega) (by omega) (fun _ => ?_) (fun q => by omega))
      refine oT_N 4 rfl (oT_le m 1 t2 rfl (by omega) (by decide) (fun q => ?_) (fun q => ?_))
      · refine oT_Retv rfl rfl ⟨rfl, t1, m, fun _ => a0, t2, ?_, fun q2 => ?_, fun i hi => ?_⟩
        · rcases t3 with ⟨e1, e2⟩ | ⟨e1, e2, e3, e4, e5, e6, e7⟩
          · exact Or.inl ⟨e1, fun j q1 q2 a ha => e2 a ha j q1 q2⟩
          · exact Or.inr ⟨e1, e2, ⟨a0, e3, e5⟩, fun j q1 q2 a ha => e6 a ha j q1 q2⟩
        · rcases t3 with ⟨e1, e2⟩ | ⟨e1, e2, e3, e4, e5, e6, e7⟩
          · omega
          · exact ⟨⟨e3, e5, e7⟩, fun i hi => by omega⟩
        · rcases t3 with ⟨e1, e2⟩ | ⟨e1, e2, e3, e4, e5, e6, e7⟩
          · omega
          · obtain rfl : i = 0 := by omega
            exact e4
      · rcases t3 with ⟨e1, e2⟩ | ⟨e1, e2, e3, e4, e5, e6, e7⟩
        · omega
        · refine oT_N 3 rfl (oT_V rfl rfl rfl rfl (by omega) (by omega) (ot_follow (σ := τ) (m := m) (s := a0) hr hr27 hr26 hn e3 e1 e2 t2 e4 (by rw [hbr]; exact e5) (fun j q1 q2 => by rw [hbr]; exact e6 a0 e3 j q1 q2) (fun a ha => by rw [hbr]; exact e7 a ha) (by omega) (by omega)) (fun x σ2 h => by cases h.1) (fun v σ2 hv => ?_))
          obtain ⟨hv, f1, g, f2, f3⟩ := hv
          cases hv
          rw [hbr] at f2
          exact oT_Retv rfl rfl ⟨rfl, fun o q1 q2 q3 => by rw [f1 o q2 q3]; exact t1 o q1 q2 q3, m, g, by rw [f1 6 (by decide) (by decide)]; exact t2, Or.inr ⟨e1, e2, ⟨a0, e3, e5⟩, fun j q1 q2 a ha => e6 a ha j q1 q2⟩, fun _ => f2, f3⟩
    | succ d ih =>
      intro s m a0 τ l4 hs t1 t2 t3
      have hmn : m ≤ n := by rcases t3 with q | q <;> omega
      have hbr : oBr τ r = oBr σ r := by funext a b; unfold oBr; rw [t1 r hr6 hr26 hr27]
      refine oT_N 3 rfl (oT_le n s rfl rfl (by omega) (by omega) (fun q => by omega) (fun _ => ?_))
      refine oT_N 4 rfl (oT_V rfl rfl rfl rfl (by omega) (by omega) (ot_stepsAround (σ := τ) (s := s) hr hr27 hn (by omega) (by omega) (by omega)) (fun x σ2 h => by obtain ⟨m, h, -⟩ := h; cases h) (fun v σ2 hv => ?_))
      obtain ⟨c, hv, b1, b2, b3, b4⟩ := hv
      cases hv
      rw [hbr] at b3 b4
      have u1 : ∀ o, o ≠ 6 → o ≠ 26 → o ≠ 27 → σ2 o = σ o := fun o q1 q2 q3 => by rw [b2 o q3]; exact t1 o q1 q2 q3
      have u2 : σ2 6 0 = nI m := by rw [b2 6 (by decide)]; exact t2
      -- not taken
      have skip : ((m = 0 ∧ ∀ j, 1 ≤ j → j ≤ n → ¬ oPt n (oBr σ r) j s s) ∨ (1 ≤ m ∧ ∀ j, 1 ≤ j → j < m → ¬ oPt n (oBr σ r) j s s)) → oT L (k + 1) 29 55 [some (.ref 6), some (.ref r), some (.int (nI n)), some (.int (nI s)), some (.int (nI c))] [] σ2 (fun o σ' => o = .inl none ∧ (∀ o, o ≠ 6 → o ≠ 26 → o ≠ 27 → σ' o = σ o) ∧ ∃ m g, σ' 6 0 = nI m ∧ oSh n (oBr σ r) m ∧ (1 ≤ m → oWk n (oBr σ r) m g) ∧ ∀ i, i < m → σ' 26 i = nI (g i)) := fun hq => by
        have e := ih (s + 1) m a0 σ2 (some (.int (nI c))) (by omega) u1 u2 (by
          rcases t3 with ⟨e1, e2⟩ | ⟨e1, e2, e3, e4, e5, e6, e7⟩
          · refine Or.inl ⟨e1, fun a ha j q1 q2 => ?_⟩
            rcases Nat.lt_or_ge a s with q3 | q3
            · exact e2 a q3 j q1 q2
            · obtain rfl : a = s := by omega
              rcases hq with q4 | q4
              · exact q4.2 j q1 q2
              · omega
          · refine Or.inr ⟨e1, e2, by omega, by rw [b2 26 (by decide)]; exact e4, e5, fun a ha j q1 q2 => ?_, e7⟩
            rcases Nat.lt_or_ge a s with q3 | q3
            · exact e6 a q3 j q1 q2
            · obtain rfl : a = s := by omega
              rcases hq with q4 | q4
              · omega
              · exact q4.2 j q1 q2)
        rw [← ox_inc s] at e
        exact oT_N 2 rfl e
      -- taken
      have take : 1 ≤ c → (m = 0 ∨ c < m) → oT L (k + 1) 29 42 [some (.ref 6), some (.ref r), some (.int (nI n)), some (.int (nI s)), some (.int (nI c))] [] σ2 (fun o σ' => o = .inl none ∧ (∀ o, o ≠ 6 → o ≠ 26 → o ≠ 27 → σ' o = σ o) ∧ ∃ m g, σ' 6 0 = nI m ∧ oSh n (oBr σ r) m ∧ (1 ≤ m → oWk n (oBr σ r) m g) ∧ ∀ i, i < m → σ' 26 i = nI (g i)) := fun hc hq => by
        obtain ⟨d1, d2, -⟩ := b4 hc
        refine oT_N 7 rfl (oT_Is (o := 26) (n := nI 0) (x := nI s) rfl ⟨rfl, by decide⟩ (ox_ix (N := 12) (by decide) (by decide)) ?_)
        rw [show (nI 0).toNatClampNeg = 0 from rfl]
        have e := ih (s + 1) c s (ox_up (ox_up σ2 6 0 (nI c)) 26 0 (nI s)) (some (.int (nI c))) (by omega) (fun o q1 q2 q3 => by rw [ox_up_ne q2, ox_up_ne q1]; exact u1 o q1 q2 q3) (by rw [ox_up_ne (by decide), ox_up_at, if_pos rfl]) (Or.inr ⟨hc, b1, by omega, by rw [ox_up_at, if_pos rfl], d1, fun a ha j q1 q2 => by
          rcases Nat.lt_or_ge a s with q3 | q3
          · rcases t3 with ⟨e1, e2⟩ | ⟨e1, e2, e3, e4, e5, e6, e7⟩
            · exact e2 a q3 j q1 (by omega)
            · exact e6 a q3 j q1 (by omega)
          · obtain rfl : a = s := by omega
            exact d2 j q1 q2, fun a ha => by
          rcases t3 with ⟨e1, e2⟩ | ⟨e1, e2, e3, e4, e5, e6, e7⟩
          · exact e2 a ha c hc b1
          · exact e6 a ha c hc (by omega)⟩)
        rw [← ox_inc s] at e
        exact oT_N 2 rfl e
      refine oT_N 3 rfl (oT_eq c 0 rfl rfl (by omega) (by decide) (fun q => ?_) (fun q => ?_))
      · refine skip ?_
        rcases Nat.lt_or_ge m 1 with q2 | q2
        · exact Or.inl ⟨by omega, fun j q3 q4 => b3 q j q3 q4⟩
        · exact Or.inr ⟨q2, fun j q3 q4 => b3 q j q3 (by omega)⟩
      · refine oT_N 3 rfl (oT_eq m 0 u2 rfl (by omega) (by decide) (fun q2 => take (by omega) (Or.inl q2)) (fun q2 => ?_))
        refine oT_N 4 rfl (oT_le m c u2 rfl (by omega) (by omega) (fun q3 => ?_) (fun q3 => take (by omega) (Or.inr q3)))
        exact skip (Or.inr ⟨by omega, fun j q4 q5 => (b4 (by omega)).2.1 j q4 (by omega)⟩)
  exact loop n 0 0 0 _ none (by omega) (fun o q1 _ _ => ox_up_ne q1) (by rw [ox_up_at, if_pos rfl]; rfl) (Or.inl ⟨rfl, fun a ha => by omega⟩)
end OYI
