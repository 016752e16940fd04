section OYEt
variable {L k n : Nat} {σ : ox_S} {P : oPr} {M : oMo}
set_option maxHeartbeats 1000000 in
theorem ot_fillBehindt {a : Nat} (h : oC σ P) (h0 : σ 4 0 = nI P.n) (ha : a < P.n) (hk : 2 ≤ k) (hk9 : k ≤ 9) : oT L k 6 0 [some (.ref 4), some (.ref 1), some (.int (nI a)), none, none] [] σ (fun o σ' => o = .inl none ∧ (∀ o, o < 77 ∨ 88 < o → σ' o = σ o) ∧ ∀ r, r < 12 → ∀ q y, y < 12 → (oBr σ' (77 + r) q y = true ↔ oBr σ (77 + r) q y = true ∨ (q = a ∧ y < P.n ∧ oGb P r a y))) := by
  obtain ⟨k, rfl⟩ : ∃ k', k = k' + 1 := ⟨k - 1, by omega⟩
  obtain ⟨⟨hT, hn, hok⟩, a2, a3, a4, a5, a6, a7, a8, a9⟩ := id h
  have na : ¬ (nI a < 0 ∨ 12 ≤ (nI a).toNatClampNeg) := ox_ix (by omega) (by decide)
  have ca : (nI a).toNatClampNeg = a := nI_clamp (by omega)
  have pga : ∀ y, y ≤ a → oPg P a y = false := fun y hy => by
    unfold oPg
    rw [decide_eq_false (show ¬ a < y by omega), Bool.and_false]
  have loop : ∀ (d b : Nat) (τ : ox_S), b + d = P.n → a < b → (∀ o, o < 77 ∨ 88 < o → τ o = σ o) → (∀ r, r < 12 → ∀ q y, y < 12 → (oBr τ (77 + r) q y = true ↔ oBr σ (77 + r) q y = true ∨ (q = a ∧ y < b ∧ oGb P r a y))) → oT L (k + 1) 6 7 [some (.ref 4), some (.ref 1), some (.int (nI a)), some (.int (if oFn P a b then 1 else 0)), some (.int (nI b))] [] τ (fun o σ' => o = .inl none ∧ (∀ o, o < 77 ∨ 88 < o → σ' o = σ o) ∧ ∀ r, r < 12 → ∀ q y, y < 12 → (oBr σ' (77 + r) q y = true ↔ oBr σ (77 + r) q y = true ∨ (q = a ∧ y < P.n ∧ oGb P r a y))) := by
    intro d
    induction d with
    | zero =>
      intro b τ hb hab h1 h2
      obtain rfl : b = P.n := by omega
      refine oT_N 4 rfl (oT_le P.n P.n (by rw [h1 4 (by decide)]; exact h0) rfl (by omega) (by omega) (fun _ => ?_) (fun q => by omega))
      exact oT_Retv rfl rfl ⟨rfl, h1, h2⟩
    | succ d ih =>
      intro b τ hb hab h1 h2
      have nb : ¬ (nI b < 0 ∨ 12 ≤ (nI b).toNatClampNeg) := ox_ix (by omega) (by decide)
      have cb : (nI b).toNatClampNeg = b := nI_clamp (by omega)
      have hC : oC τ P := oC_ext h (h1 1 (by decide)) (fun o q1 q2 => h1 o (by omega))
      have pa := hok a ha
      have pb := hok b (by omega)
      refine oT_N 4 rfl (oT_le P.n b (by rw [h1 4 (by decide)]; exact h0) rfl (by omega) (by omega) (fun q => by omega) (fun _ => ?_))
      refine oT_N 3 rfl (oT_V rfl rfl rfl rfl (by omega) (by omega) (ot_isBefore hC ha (show b < P.n by omega)) (fun x σ2 h => by cases h.1) (fun v σ2 hv => ?_))
      obtain ⟨hv, rfl⟩ := hv
      cases hv
      show oT L (k + 1) 6 23 [some (.ref 4), some (.ref 1), some (.int (nI a)), some (.int (if oFn P a b then 1 else 0)), some (.int (nI b))] [.int (if oPg P a b then 1 else 0)] σ2 _
      cases hpg : oPg P a b with
      | false =>
        have hth : ¬ P.th b = P.th a := fun e => by
          unfold oPg at hpg
          rw [decide_eq_true hab, decide_eq_true e.symm] at hpg
          cases hpg
        have efn : oFn P a (b + 1) = oFn P a b := by
          simp only [oFn]
          rw [decide_eq_false hth, Bool.and_false, Bool.or_false]
        refine oT_N 1 rfl (oT_If (fun _ => ?_) (fun (q : ¬ (0 : Int32) = 0) => absurd rfl q))
        have e := ih (b + 1) σ2 (by omega) (by omega) h1 (fun r hr q y hy => (h2 r hr q y hy).trans ⟨fun q1 => q1.imp id (fun q1 => ⟨q1.1, by omega, q1.2.2⟩), fun q1 => q1.imp id (fun q1 => ⟨q1.1, (by
          rcases Nat.lt_or_ge y b with q2 | q2
          · exact q2
          · obtain rfl : y = b := by omega
            have := q1.2.2.1
            rw [hpg] at this
            cases this), q1.2.2⟩)⟩)
        rw [efn, ← ox_inc b] at e
        exact oT_N 3 rfl e
      | true =>
        refine oT_N 1 rfl (oT_If (fun (q : (1 : Int32) = 0) => absurd q (by decide)) (fun _ => ?_))
        have hth : P.th b = P.th a := by
          unfold oPg at hpg
          rw [Bool.and_eq_true, decide_eq_true_eq] at hpg
          exact hpg.1.symm
        refine oT_N 3 rfl (oT_A (o := 76) (n := nI 0) rfl ⟨rfl, by decide⟩ (ox_ix (N := 40) (by decide) (by decide)) ?_)
        rw [show (nI 0).toNatClampNeg = 0 from rfl]
        refine oT_N 2 rfl (oT_I (o := 77) (n := nI a) rfl (Or.inl ⟨rfl, by decide⟩) na ?_)
        rw [ca]
        refine oT_N 4 rfl (oT_Is (o := 77) (n := nI a) (x := σ2 77 a ||| o1 b) rfl ⟨rfl, by decide⟩ na ?_)
        rw [ca]
        have u1 : ∀ o, o < 77 ∨ 88 < o → ox_up σ2 77 a (σ2 77 a ||| o1 b) o = σ o := fun o ho => by rw [ox_up_ne (by omega)]; exact h1 o ho
        have u2 : ∀ r, r < 12 → ∀ q y, y < 12 → (oBr (ox_up σ2 77 a (σ2 77 a ||| o1 b)) (77 + r) q y = true ↔ oBr σ (77 + r) q y = true ∨ (q = a ∧ ((y < b ∧ oGb P r a y) ∨ (y = b ∧ r = 0)))) := fun r hr q y hy => by
          by_cases e : r = 0
          · subst e
            show oBit (ox_up σ2 77 a _ 77 q) y = true ↔ _
            rw [ox_up_at]
            have h20 : oBr σ2 77 q y = true ↔ _ := h2 0 (by omega) q y hy
            by_cases e2 : q = a
            · subst e2
              rw [if_pos rfl, oBit_or, oBit_1 (by omega), Bool.or_eq_true, decide_eq_true_eq, show oBit (σ2 77 q) y = true ↔ _ from h20]
              constructor
              · rintro ((q1 | q1) | q1)
                · exact Or.inl q1
                · exact Or.inr ⟨rfl, Or.inl q1.2⟩
                · exact Or.inr ⟨rfl, Or.inr ⟨q1, rfl⟩⟩
              · rintro (q1 | ⟨-, q1 | q1⟩)
                · exact Or.inl (Or.inl q1)
                · exact Or.inl (Or.inr ⟨rfl, q1⟩)
                · exact Or.inr q1.1
            · rw [if_neg e2]
              refine h20.trans ⟨fun q1 => q1.imp id (fun q1 => absurd q1.1 e2), fun q1 => q1.imp id (fun q1 => absurd q1.1 e2)⟩
          · show oBit (ox_up σ2 77 a _ (77 + r) q) y = true ↔ _
            rw [ox_up_ne (by omega)]
            refine (h2 r hr q y hy).trans ⟨fun q1 => q1.imp id (fun q1 => ⟨q1.1, Or.inl q1.2⟩), fun q1 => q1.imp id (fun q1 => ⟨q1.1, q1.2.elim id (fun q2 => absurd q2.2 e)⟩)⟩
        generalize ox_up σ2 77 a (σ2 77 a ||| o1 b) = τ1 at u1 u2
        have hC1 : oC τ1 P := oC_ext h (u1 1 (by decide)) (fun o q1 q2 => u1 o (by omega))
        refine oT_N 3 rfl (oT_I (o := 10) (n := nI b) rfl (Or.inl ⟨rfl, by decide⟩) nb ?_)
        rw [cb, u1 10 (by decide), (a5 b (by omega)).2.1]
        -- rows of which none but the first got b
        have only0 : (P.kd b = 2 ∨ P.kd a = 2) → ∀ r, r < 12 → ∀ q y, y < 12 → (oBr τ1 (77 + r) q y = true ↔ oBr σ (77 + r) q y = true ∨ (q = a ∧ y < b + 1 ∧ oGb P r a y)) := fun hab2 r hr q y hy => by
          refine (u2 r hr q y hy).trans ⟨fun q1 => q1.imp id (fun q1 => ⟨q1.1, ?_⟩), fun q1 => q1.imp id (fun q1 => ⟨q1.1, ?_⟩)⟩
          · rcases q1.2 with q2 | q2
            · exact ⟨by omega, q2.2⟩
            · rw [q2.1, q2.2]
              exact ⟨by omega, hpg, Or.inl rfl⟩
          · obtain ⟨-, q2, q3⟩ := q1
            rcases Nat.lt_or_ge y b with q4 | q4
            · exact Or.inl ⟨q4, q3⟩
            · obtain rfl : y = b := by omega
              refine Or.inr ⟨rfl, ?_⟩
              rcases q3.2 with q5 | q5
              · exact q5
              · rcases hab2 with q6 | q6
                · exact absurd q6 q5.2.1
                · exact absurd q6 q5.1
        refine oT_N 2 rfl (oT_eq (P.kd b) 2 rfl rfl (by omega) (by decide) (fun q2 => ?_) (fun q2 => ?_))
        · have efn : oFn P a (b + 1) = true := by
            simp only [oFn]
            rw [decide_eq_true hth, decide_eq_true q2, decide_eq_true hab]
            simp
          have e := ih (b + 1) τ1 (by omega) (by omega) u1 (only0 (Or.inl q2))
          rw [efn, ← ox_inc b] at e
          exact oT_N 5 rfl e
        · have efn : oFn P a (b + 1) = oFn P a b := by
            simp only [oFn]
            rw [decide_eq_false q2, Bool.and_false, Bool.false_and, Bool.or_false]
          refine oT_N 3 rfl (oT_I (o := 10) (n := nI a) rfl (Or.inl ⟨rfl, by decide⟩) na ?_)
          rw [ca, u1 10 (by decide), (a5 a ha).2.1]
          refine oT_N 2 rfl (oT_eq (P.kd a) 2 rfl rfl (by omega) (by decide) (fun q3 => ?_) (fun q3 => ?_))
          · have e := ih (b + 1) τ1 (by omega) (by omega) u1 (only0 (Or.inr q3))
            rw [efn, ← ox_inc b] at e
            exact oT_N 2 rfl e
          · refine oT_N 5 rfl (oT_V rfl rfl rfl rfl (by omega) (by omega) (ot_fillPairt (fe := oFn P a b) hC1 ha (show b < P.n by omega) q3 q2) (fun x σ2 h => by cases h.1) (fun v τ2 hv => ?_))
            obtain ⟨hv, v1, v2⟩ := hv
            cases hv
            have e := ih (b + 1) τ2 (by omega) (by omega) (fun o ho => by rw [v1 o ho]; exact u1 o ho) (fun r hr q y hy => by
              rw [v2 r hr q y hy, u2 r hr q y hy]
              constructor
              · rintro ((q4 | ⟨q4, q5 | q5⟩) | ⟨q4, q5, q6⟩)
                · exact Or.inl q4
                · exact Or.inr ⟨q4, by omega, q5.2⟩
                · rw [q5.1, q5.2]
                  exact Or.inr ⟨q4, by omega, hpg, Or.inl rfl⟩
                · rw [q5]
                  exact Or.inr ⟨q4, by omega, hpg, Or.inr ⟨q3, q2, q6⟩⟩
              · rintro (q4 | ⟨q4, q5, q6⟩)
                · exact Or.inl (Or.inl q4)
                · rcases Nat.lt_or_ge y b with q7 | q7
                  · exact Or.inl (Or.inr ⟨q4, Or.inl ⟨q7, q6⟩⟩)
                  · obtain rfl : y = b := by omega
                    rcases q6.2 with q8 | q8
                    · exact Or.inl (Or.inr ⟨q4, Or.inr ⟨rfl, q8⟩⟩)
                    · exact Or.inr ⟨q4, rfl, q8.2.2⟩)
            rw [efn, ← ox_inc b] at e
            exact oT_N 2 rfl e
  have e := loop (P.n - (a + 1)) (a + 1) σ (by omega) (by omega) (fun _ _ => rfl) (fun r hr q y hy => ⟨Or.inl, fun q1 => q1.elim id (fun q1 => by
    have := q1.2.2.1
    rw [pga y (by omega)] at this
    cases this)⟩)
  rw [oFn_low (a + 1) (Nat.le_refl _), ← ox_inc a] at e
  exact oT_N 6 rfl e
set_option maxHeartbeats 1000000 in
theorem ot_fillSteadyt (h : oC σ P) (h0 : σ 4 0 = nI P.n) (hk : 3 ≤ k) (hk9 : k ≤ 9) : oT L k 5 0 [some (.ref 4), some (.ref 1), none, none] [] σ (fun o σ' => o = .inl none ∧ (∀ o, o < 77 ∨ 88 < o → σ' o = σ o) ∧ ∀ r, r < 12 → (r = 0 ∨ 5 ≤ r) → ∀ a b, a < P.n → b < P.n → oBr σ' (77 + r) a b = oGv P σ r a b) := by
  obtain ⟨k, rfl⟩ : ∃ k', k = k' + 1 := ⟨k - 1, by omega⟩
  obtain ⟨⟨hT, hn, hok⟩, a2, a3, a4, a5, a6, a7, a8, a9⟩ := id h
  refine oT_N 2 rfl ?_
  have outer : ∀ (d a : Nat) (τ : ox_S) (l3 : Option Value), a + d = P.n → (∀ o, o < 77 ∨ 88 < o → τ o = σ o) → (∀ r, r < 12 → (r = 0 ∨ 5 ≤ r) → ∀ x b, x < a → b < P.n → oBr τ (77 + r) x b = oGv P σ r x b) → oT L (k + 1) 5 2 [some (.ref 4), some (.ref 1), some (.int (nI a)), l3] [] τ (fun o σ' => o = .inl none ∧ (∀ o, o < 77 ∨ 88 < o → σ' o = σ o) ∧ ∀ r, r < 12 → (r = 0 ∨ 5 ≤ r) → ∀ a b, a < P.n → b < P.n → oBr σ' (77 + r) a b = oGv P σ r a b) := by
    intro d
    induction d with
    | zero =>
      intro a τ l3 ha h1 h2
      refine oT_N 4 rfl (oT_le P.n a (by rw [h1 4 (by decide)]; exact h0) rfl (by omega) (by omega) (fun _ => ?_) (fun q => by omega))
      exact oT_Retv rfl rfl ⟨rfl, h1, fun r hr hr2 x b hx hb => h2 r hr hr2 x b (by omega) hb⟩
    | succ d ih =>
      intro a τ l3 ha h1 h2
      have na : ¬ (nI a < 0 ∨ 12 ≤ (nI a).toNatClampNeg) := ox_ix (by omega) (by decide)
      have ca : (nI a).toNatClampNeg = a := nI_clamp (by omega)
      refine oT_N 4 rfl (oT_le P.n a (by rw [h1 4 (by decide)]; exact h0) rfl (by omega) (by omega) (fun q => by omega) (fun _ => ?_))
      have zero : ∀ (d r : Nat) (τ' : ox_S), r + d = 12 → 5 ≤ r → (∀ o, o < 77 ∨ 88 < o → τ' o = σ o) → (∀ r', r' < 12 → (r' = 0 ∨ 5 ≤ r') → ∀ x b, x < a → b < P.n → oBr τ' (77 + r') x b = oGv P σ r' x b) → (∀ r', 5 ≤ r' → r' < r → τ' (77 + r') a = 0) → oT L (k + 1) 5 12 [some (.ref 4), some (.ref 1), some (.int (nI a)), some (.int (nI r))] [] τ' (fun o σ' => o = .inl none ∧ (∀ o, o < 77 ∨ 88 < o → σ' o = σ o) ∧ ∀ r, r < 12 → (r = 0 ∨ 5 ≤ r) → ∀ a b, a < P.n → b < P.n → oBr σ' (77 + r) a b = oGv P σ r a b) := by
        intro d
        induction d with
        | zero =>
          intro r τ' hr h5 g1 g2 g3
          refine oT_N 3 rfl (oT_le 12 r rfl rfl (by decide) (by omega) (fun _ => ?_) (fun q => by omega))
          refine oT_N 3 rfl (oT_A (o := 76) (n := nI 0) rfl ⟨rfl, by decide⟩ (ox_ix (N := 40) (by decide) (by decide)) ?_)
          rw [show (nI 0).toNatClampNeg = 0 from rfl]
          refine oT_N 2 rfl (oT_Is (o := 77) (n := nI a) (x := 0) rfl ⟨rfl, by decide⟩ na ?_)
          rw [ca]
          refine oT_N 3 rfl (oT_A (o := 76) (n := nI 6) rfl ⟨rfl, by decide⟩ (ox_ix (N := 40) (by decide) (by decide)) ?_)
          rw [show (nI 6).toNatClampNeg = 6 from rfl]
          refine oT_N 4 rfl (oT_I (o := 13) (n := nI a) rfl (Or.inl ⟨rfl, by decide⟩) na ?_)
          rw [ca, ox_up_ne (by decide), g1 13 (by decide)]
          refine oT_Is (o := 83) (n := nI a) (x := σ 13 a) rfl ⟨rfl, by decide⟩ na ?_
          rw [ca]
          have u1 : ∀ o, o < 77 ∨ 88 < o → ox_up (ox_up τ' 77 a 0) 83 a (σ 13 a) o = σ o := fun o ho => by rw [ox_up_ne (by omega), ox_up_ne (by omega)]; exact g1 o ho
          have u2 : ∀ r', r' < 12 → (r' = 0 ∨ 5 ≤ r') → ∀ x b, x < a → b < P.n → oBr (ox_up (ox_up τ' 77 a 0) 83 a (σ 13 a)) (77 + r') x b = oGv P σ r' x b := fun r' q1 q2 x b q3 q4 => by
            have e : ox_up (ox_up τ' 77 a 0) 83 a (σ 13 a) (77 + r') x = τ' (77 + r') x := by
              by_cases e6 : r' = 6
              · subst e6
                show ox_up (ox_up τ' 77 a 0) 83 a (σ 13 a) 83 x = τ' 83 x
                rw [ox_up_at, if_neg (by omega), ox_up_ne (by decide)]
              · rw [ox_up_ne (by omega)]
                by_cases e0 : r' = 0
                · subst e0
                  show ox_up τ' 77 a 0 77 x = τ' 77 x
                  rw [ox_up_at, if_neg (by omega)]
                · rw [ox_up_ne (by omega)]
            unfold oBr
            rw [e]
            exact g2 r' q1 q2 x b q3 q4
          have u3 : ∀ r', r' < 12 → (r' = 0 ∨ 5 ≤ r') → ox_up (ox_up τ' 77 a 0) 83 a (σ 13 a) (77 + r') a = if r' = 6 then σ 13 a else 0 := fun r' q1 q2 => by
            by_cases e6 : r' = 6
            · subst e6
              show ox_up (ox_up τ' 77 a 0) 83 a (σ 13 a) 83 a = _
              rw [ox_up_at, if_pos rfl, if_pos rfl]
            · rw [if_neg e6, ox_up_ne (by omega)]
              by_cases e0 : r' = 0
              · subst e0
                show ox_up τ' 77 a 0 77 a = 0
                rw [ox_up_at, if_pos rfl]
              · rw [ox_up_ne (by omega)]
                exact g3 r' (by omega) (by omega)
          generalize ox_up (ox_up τ' 77 a 0) 83 a (σ 13 a) = τ1 at u1 u2 u3
          refine oT_N 3 rfl (oT_V rfl rfl rfl rfl (by omega) (by omega) (ot_fillBehindt (a := a) (oC_ext h (u1 1 (by decide)) (fun o q1 q2 => u1 o (by omega))) (by rw [u1 4 (by decide)]; exact h0) (by omega) (by omega) (by omega)) (fun x σ2 h => by cases h.1) (fun v τ2 hv => ?_))
          obtain ⟨hv, v1, v2⟩ := hv
          cases hv
          have e := ih (a + 1) τ2 (some (.int (nI r))) (by omega) (fun o ho => by rw [v1 o ho]; exact u1 o ho) (fun r' q1 q2 x b q3 q4 => by
            have key : oBr τ2 (77 + r') x b = true ↔ oGv P σ r' x b = true := by
              rw [v2 r' q1 x b (by omega)]
              rcases Nat.lt_or_ge x a with q5 | q5
              · rw [u2 r' q1 q2 x b q5 q4]
                exact ⟨fun q => q.elim id (fun q => absurd q.1 (by omega)), Or.inl⟩
              · obtain rfl : x = a := by omega
                have e3 := u3 r' q1 q2
                have hb0 : oBr τ1 (77 + r') x b = oBit (if r' = 6 then σ 13 x else 0) b := by unfold oBr; rw [e3]
                rw [hb0]
                by_cases e6 : r' = 6
                · subst e6
                  rw [if_pos rfl, (a5 x (by omega)).2.2.2.2 b (by omega), decide_eq_true q4, Bool.true_and]
                  refine ⟨fun q => q.elim id (fun q => ?_), Or.inl⟩
                  rcases q.2.2.2 with e9 | ⟨-, -, e9⟩
                  · omega
                  · rcases e9 with e9 | e9 | e9 <;> omega
                · rw [if_neg e6, oBit_0, ← oGb_gv (σ := σ) ⟨hT, hn, hok⟩ (show x < P.n by omega) q4 q1 (by omega)]
                  exact ⟨fun q => q.elim (fun q => (by cases q)) (fun q => q.2.2), fun q => Or.inr ⟨rfl, q4, q⟩⟩
            exact Bool.eq_iff_iff.mpr key)
          rw [← ox_inc a] at e
          exact oT_N 2 rfl e
        | succ d ihr =>
          intro r τ' hr h5 g1 g2 g3
          have rr : oRw (77 + r) := by have := oRw_77 r (by omega); first | exact this.1 | exact this.2
          refine oT_N 3 rfl (oT_le 12 r rfl rfl (by decide) (by omega) (fun q => by omega) (fun _ => ?_))
          refine oT_N 3 rfl (oT_A (o := 76) (n := nI r) rfl ⟨rfl, by decide⟩ (ox_ix (N := 40) (by omega) (by decide)) ?_)
          rw [nI_clamp (show r < 2 ^ 31 by omega)]
          refine oT_N 2 rfl (oT_Is (o := 77 + r) (n := nI a) (x := 0) rfl ⟨rr.1, rr.2.1⟩ (ox_ixL rr.2.1 rr.2.2 (by omega) (by decide)) ?_)
          rw [ca]
          have e := ihr (r + 1) (ox_up τ' (77 + r) a 0) (by omega) (by omega) (fun o ho => by rw [ox_up_ne (by omega)]; exact g1 o ho) (fun r' q1 q2 x b q3 q4 => by
            have e : ox_up τ' (77 + r) a 0 (77 + r') x = τ' (77 + r') x := by
              by_cases e2 : r' = r
              · subst e2
                rw [ox_up_at, if_neg (by omega)]
              · rw [ox_up_ne (by omega)]
            unfold oBr
            rw [e]
            exact g2 r' q1 q2 x b q3 q4) (fun r' q1 q2 => by
            by_cases e2 : r' = r
            · subst e2
              rw [ox_up_at, if_pos rfl]
            · rw [ox_up_ne (by omega)]
              exact g3 r' q1 (by omega))
          rw [← ox_inc r] at e
          exact oT_N 2 rfl e
      exact oT_N 2 rfl (zero 7 5 τ (by omega) (by omega) h1 h2 (fun r' q1 q2 => by omega))
  exact outer P.n 0 σ none (by omega) (fun _ _ => rfl) (fun r hr hr2 x b hx => by omega)
set_option maxHeartbeats 1000000 in
theorem ot_fillMadet {r : Nat} (hm : oCo σ M) (h12 : 12 ≤ r) (hr : r < M.R) (h0 : σ 4 0 = nI n) (hn : n ≤ 12) (hk : 2 ≤ k) (hk9 : k ≤ 9) : oT L k 10 0 [some (.ref 4), some (.ref 2), some (.int (nI r)), none, none, none] [] σ (fun o σ' => o = .inl none ∧ (∀ o, o ≠ 77 + r → σ' o = σ o) ∧ ∀ a b, a < n → b < n → (oBr σ' (77 + r) a b = true ↔ oHw n (M.hw r) (oBr σ (77 + M.lf r)) (oBr σ (77 + M.rt r)) a b)) := by
  obtain ⟨k, rfl⟩ : ∃ k', k = k' + 1 := ⟨k - 1, by omega⟩
  obtain ⟨⟨m1, m2, m3, m4, m5⟩, g1, g2, g3, g4⟩ := id hm
  obtain ⟨s1, s2, s3⟩ := m4 r h12 hr
  obtain ⟨t1, t2, t3⟩ := g3 r h12 hr
  have n40 : ¬ (nI r < 0 ∨ 40 ≤ (nI r).toNatClampNeg) := ox_ix (by omega) (by decide)
  have cr : (nI r).toNatClampNeg = r := nI_clamp (by omega)
  have rd : oRw (77 + r) := by have := oRw_77 r (by omega); first | exact this.1 | exact this.2
  have rs : oRw (77 + M.lf r) := by have := oRw_77 (M.lf r) (by omega); first | exact this.1 | exact this.2
  have rt : oRw (77 + M.rt r) := by have := oRw_77 (M.rt r) (by omega); first | exact this.1 | exact this.2
  refine oT_N 5 rfl (oT_I (o := 23) (n := nI r) rfl (Or.inl ⟨rfl, by decide⟩) n40 ?_)
  rw [cr, t2]
  refine oT_A (o := 76) (n := nI (M.lf r)) rfl ⟨rfl, by decide⟩ (ox_ix (N := 40) (by omega) (by decide)) ?_
  rw [nI_clamp (by omega)]
  refine oT_N 6 rfl (oT_I (o := 24) (n := nI r) rfl (Or.inl ⟨rfl, by decide⟩) n40 ?_)
  rw [cr, t3]
  refine oT_A (o := 76) (n := nI (M.rt r)) rfl ⟨rfl, by decide⟩ (ox_ix (N := 40) (by omega) (by decide)) ?_
  rw [nI_clamp (by omega)]
  refine oT_N 4 rfl (oT_A (o := 76) (n := nI r) rfl ⟨rfl, by decide⟩ n40 ?_)
  rw [cr]
  refine oT_N 4 rfl (oT_I (o := 22) (n := nI r) rfl (Or.inl ⟨rfl, by decide⟩) n40 ?_)
  rw [cr, t1]
  have each : ∀ h, h ≤ 2 → M.hw r = h → oT L (k + 1) 10 105 [some (.ref 4), some (.ref 2), some (.int (nI r)), some (.ref (77 + M.lf r)), some (.ref (77 + M.rt r)), some (.ref (77 + r))] [] σ (fun o σ' => o = .inl none ∧ (∀ o, o ≠ 77 + r → σ' o = σ o) ∧ ∀ a b, a < n → b < n → (oBr σ' (77 + r) a b = true ↔ oHw n (M.hw r) (oBr σ (77 + M.lf r)) (oBr σ (77 + M.rt r)) a b)) := fun h hh he => by
    refine oT_N 6 rfl (oT_I (o := 22) (n := nI r) rfl (Or.inl ⟨rfl, by decide⟩) n40 ?_)
    rw [cr, t1, he]
    refine oT_N 2 rfl (oT_S rfl rfl rfl (by omega) (by omega) (PostC := fun o σ' => o = .inl none ∧ (∀ o, o ≠ 77 + r → σ' o = σ o) ∧ ∀ a, a < n → σ' (77 + r) a = if h = 0 then σ (77 + M.lf r) a ||| σ (77 + M.rt r) a else if h = 1 then σ (77 + M.lf r) a &&& σ (77 + M.rt r) a else σ (77 + M.lf r) a &&& (σ (77 + M.rt r) a ^^^ Int32.ofInt (-1))) (by
      have e := ot_fillEach (L := L) (k := k) (σ := σ) (h := h) (n := n) rd rs rt (by omega) (by omega) hn hh
      rw [← h0] at e
      exact e) (fun x σ2 h => by cases h.1) (fun v σ2 hv => ?_))
    obtain ⟨hv, v1, v2⟩ := hv
    cases hv
    refine oT_Retv rfl rfl ⟨rfl, v1, fun a b ha hb => ?_⟩
    have hb32 : decide (b < 32) = true := decide_eq_true (by omega)
    unfold oBr
    rw [v2 a ha]
    rcases Nat.lt_or_ge h 1 with q | q
    · obtain rfl : h = 0 := by omega
      rw [if_pos rfl, oBit_or, Bool.or_eq_true]
      exact Iff.rfl
    · rcases Nat.lt_or_ge h 2 with q2 | q2
      · obtain rfl : h = 1 := by omega
        rw [if_neg (by omega), if_pos rfl, oBit_and, Bool.and_eq_true]
        exact Iff.rfl
      · obtain rfl : h = 2 := by omega
        rw [if_neg (by omega), if_neg (by omega), oBit_and, oBit_no, hb32, Bool.true_and, Bool.and_eq_true, Bool.not_eq_true']
        exact Iff.rfl
  rcases Nat.lt_or_ge (M.hw r) 3 with q | q
  · have hc : M.hw r = 0 ∨ M.hw r = 1 ∨ M.hw r = 2 := by omega
    rcases hc with e | e | e
    · have := each 0 (by omega) e
      rw [e] at this ⊢
      exact oT_N 1 rfl this
    · have := each 1 (by omega) e
      rw [e] at this ⊢
      exact oT_N 1 rfl this
    · have := each 2 (by omega) e
      rw [e] at this ⊢
      exact oT_N 1 rfl this
  · have hc : M.hw r = 3 ∨ M.hw r = 4 ∨ M.hw r = 5 := by omega
    rcases hc with e | e | e
    · rw [e]
      refine oT_N 1 rfl ?_
      refine oT_N 5 rfl (oT_S rfl rfl rfl (by omega) (by omega) (PostC := fun o σ' => o = .inl none ∧ (∀ o, o ≠ 77 + r → σ' o = σ o) ∧ ∀ a b, a < n → (oBr σ' (77 + r) a b = true ↔ ∃ c, c < n ∧ oBr σ (77 + M.lf r) a c = true ∧ oBr σ (77 + M.rt r) c b = true)) (by
        have e := ot_fillJoin (L := L) (k := k) (σ := σ) (n := n) rd rs rt (by omega) (by omega) hn
        rw [← h0] at e
        exact e) (fun x σ2 h => by cases h.1) (fun v σ2 hv => ?_))
      obtain ⟨hv, v1, v2⟩ := hv
      cases hv
      exact oT_N 1 rfl (oT_Retv rfl rfl ⟨rfl, v1, fun a b ha hb => v2 a b ha⟩)
    · rw [e]
      refine oT_N 1 rfl ?_
      refine oT_N 4 rfl (oT_S rfl rfl rfl (by omega) (by omega) (PostC := fun o σ' => o = .inl none ∧ (∀ o, o ≠ 77 + r → σ' o = σ o) ∧ ∀ a b, a < n → b < n → oBr σ' (77 + r) a b = oBr σ (77 + M.lf r) b a) (by
        have e := ot_fillTurn (L := L) (k := k) (σ := σ) (n := n) rd rs (by omega) hn
        rw [← h0] at e
        exact e) (fun x σ2 h => by cases h.1) (fun v σ2 hv => ?_))
      obtain ⟨hv, v1, v2⟩ := hv
      cases hv
      exact oT_N 1 rfl (oT_Retv rfl rfl ⟨rfl, v1, fun a b ha hb => by rw [v2 a b ha hb]; exact Iff.rfl⟩)
    · rw [e]
      refine oT_N 1 rfl ?_
      refine oT_N 4 rfl (oT_S rfl rfl rfl (by omega) (by omega) (PostC := fun o σ' => o = .inl none ∧ (∀ o, o ≠ 77 + r → σ' o = σ o) ∧ ∀ a b, a < n → b < n → (oBr σ' (77 + r) a b = true ↔ oTc n (oBr σ (77 + M.lf r)) a b)) (by
        have e := ot_fillClosure (L := L) (k := k) (σ := σ) (n := n) rd rs (by omega) hn
        rw [← h0] at e
        exact e) (fun x σ2 h => by cases h.1) (fun v σ2 hv => ?_))
      obtain ⟨hv, v1, v2⟩ := hv
      cases hv
      exact oT_N 1 rfl (oT_Retv rfl rfl ⟨rfl, v1, fun a b ha hb => v2 a b ha hb⟩)
end OYEt

section OYEs
variable {L k n : Nat} {σ : ox_S} {P : oPr} {M : oMo}
set_option maxHeartbeats 1000000 in
theorem ot_fillBehinds {a : Nat} (h : oC σ P) (h0 : σ 5 0 = nI P.n) (ha : a < P.n) (hk : 2 ≤ k) (hk9 : k ≤ 9) : oT L k 6 0 [some (.ref 5), some (.ref 1), some (.int (nI a)), none, none] [] σ (fun o σ' => o = .inl none ∧ (∀ o, o < 130 ∨ 141 < o → σ' o = σ o) ∧ ∀ r, r < 12 → ∀ q y, y < 12 → (oBr σ' (130 + r) q y = true ↔ oBr σ (130 + r) q y = true ∨ (q = a ∧ y < P.n ∧ oGb P r a y))) := by
  obtain ⟨k, rfl⟩ : ∃ k', k = k' + 1 := ⟨k - 1, by omega⟩
  obtain ⟨⟨hT, hn, hok⟩, a2, a3, a4, a5, a6, a7, a8, a9⟩ := id h
  have na : ¬ (nI a < 0 ∨ 12 ≤ (nI a).toNatClampNeg) := ox_ix (by omega) (by decide)
  have ca : (nI a).toNatClampNeg = a := nI_clamp (by omega)
  have pga : ∀ y, y ≤ a → oPg P a y = false := fun y hy => by
    unfold oPg
    rw [decide_eq_false (show ¬ a < y by omega), Bool.and_false]
  have loop : ∀ (d b : Nat) (τ : ox_S), b + d = P.n → a < b → (∀ o, o < 130 ∨ 141 < o → τ o = σ o) → (∀ r, r < 12 → ∀ q y, y < 12 → (oBr τ (130 + r) q y = true ↔ oBr σ (130 + r) q y = true ∨ (q = a ∧ y < b ∧ oGb P r a y))) → oT L (k + 1) 6 7 [some (.ref 5), some (.ref 1), some (.int (nI a)), some (.int (if oFn P a b then 1 else 0)), some (.int (nI b))] [] τ (fun o σ' => o = .inl none ∧ (∀ o, o < 130 ∨ 141 < o → σ' o = σ o) ∧ ∀ r, r < 12 → ∀ q y, y < 12 → (oBr σ' (130 + r) q y = true ↔ oBr σ (130 + r) q y = true ∨ (q = a ∧ y < P.n ∧ oGb P r a y))) := by
    intro d
    induction d with
    | zero =>
      intro b τ hb hab h1 h2
      obtain rfl : b = P.n := by omega
      refine oT_N 4 rfl (oT_le P.n P.n (by rw [h1 5 (by decide)]; exact h0) rfl (by omega) (by omega) (fun _ => ?_) (fun q => by omega))
      exact oT_Retv rfl rfl ⟨rfl, h1, h2⟩
    | succ d ih =>
      intro b τ hb hab h1 h2
      have nb : ¬ (nI b < 0 ∨ 12 ≤ (nI b).toNatClampNeg) := ox_ix (by omega) (by decide)
      have cb : (nI b).toNatClampNeg = b := nI_clamp (by omega)
      have hC : oC τ P := oC_ext h (h1 1 (by decide)) (fun o q1 q2 => h1 o (by omega))
      have pa := hok a ha
      have pb := hok b (by omega)
      refine oT_N 4 rfl (oT_le P.n b (by rw [h1 5 (by decide)]; exact h0) rfl (by omega) (by omega) (fun q => by omega) (fun _ => ?_))
      refine oT_N 3 rfl (oT_V rfl rfl rfl rfl (by omega) (by omega) (ot_isBefore hC ha (show b < P.n by omega)) (fun x σ2 h => by cases h.1) (fun v σ2 hv => ?_))
      obtain ⟨hv, rfl⟩ := hv
      cases hv
      show oT L (k + 1) 6 23 [some (.ref 5), some (.ref 1), some (.int (nI a)), some (.int (if oFn P a b then 1 else 0)), some (.int (nI b))] [.int (if oPg P a b then 1 else 0)] σ2 _
      cases hpg : oPg P a b with
      | false =>
        have hth : ¬ P.th b = P.th a := fun e => by
          unfold oPg at hpg
          rw [decide_eq_true hab, decide_eq_true e.symm] at hpg
          cases hpg
        have efn : oFn P a (b + 1) = oFn P a b := by
          simp only [oFn]
          rw [decide_eq_false hth, Bool.and_false, Bool.or_false]
        refine oT_N 1 rfl (oT_If (fun _ => ?_) (fun (q : ¬ (0 : Int32) = 0) => absurd rfl q))
        have e := ih (b + 1) σ2 (by omega) (by omega) h1 (fun r hr q y hy => (h2 r hr q y hy).trans ⟨fun q1 => q1.imp id (fun q1 => ⟨q1.1, by omega, q1.2.2⟩), fun q1 => q1.imp id (fun q1 => ⟨q1.1, (by
          rcases Nat.lt_or_ge y b with q2 | q2
          · exact q2
          · obtain rfl : y = b := by omega
            have := q1.2.2.1
            rw [hpg] at this
            cases this), q1.2.2⟩)⟩)
        rw [efn, ← ox_inc b] at e
        exact oT_N 3 rfl e
      | true =>
        refine oT_N 1 rfl (oT_If (fun (q : (1 : Int32) = 0) => absurd q (by decide)) (fun _ => ?_))
        have hth : P.th b = P.th a := by
          unfold oPg at hpg
          rw [Bool.and_eq_true, decide_eq_true_eq] at hpg
          exact hpg.1.symm
        refine oT_N 3 rfl (oT_A (o := 129) (n := nI 0) rfl ⟨rfl, by decide⟩ (ox_ix (N := 40) (by decide) (by decide)) ?_)
        rw [show (nI 0).toNatClampNeg = 0 from rfl]
        refine oT_N 2 rfl (oT_I (o := 130) (n := nI a) rfl (Or.inl ⟨rfl, by decide⟩) na ?_)
        rw [ca]
        refine oT_N 4 rfl (oT_Is (o := 130) (n := nI a) (x := σ2 130 a ||| o1 b) rfl ⟨rfl, by decide⟩ na ?_)
        rw [ca]
        have u1 : ∀ o, o < 130 ∨ 141 < o → ox_up σ2 130 a (σ2 130 a ||| o1 b) o = σ o := fun o ho => by rw [ox_up_ne (by omega)]; exact h1 o ho
        have u2 : ∀ r, r < 12 → ∀ q y, y < 12 → (oBr (ox_up σ2 130 a (σ2 130 a ||| o1 b)) (130 + r) q y = true ↔ oBr σ (130 + r) q y = true ∨ (q = a ∧ ((y < b ∧ oGb P r a y) ∨ (y = b ∧ r = 0)))) := fun r hr q y hy => by
          by_cases e : r = 0
          · subst e
            show oBit (ox_up σ2 130 a _ 130 q) y = true ↔ _
            rw [ox_up_at]
            have h20 : oBr σ2 130 q y = true ↔ _ := h2 0 (by omega) q y hy
            by_cases e2 : q = a
            · subst e2
              rw [if_pos rfl, oBit_or, oBit_1 (by omega), Bool.or_eq_true, decide_eq_true_eq, show oBit (σ2 130 q) y = true ↔ _ from h20]
              constructor
              · rintro ((q1 | q1) | q1)
                · exact Or.inl q1
                · exact Or.inr ⟨rfl, Or.inl q1.2⟩
                · exact Or.inr ⟨rfl, Or.inr ⟨q1, rfl⟩⟩
              · rintro (q1 | ⟨-, q1 | q1⟩)
                · exact Or.inl (Or.inl q1)
                · exact Or.inl (Or.inr ⟨rfl, q1⟩)
                · exact Or.inr q1.1
            · rw [if_neg e2]
              refine h20.trans ⟨fun q1 => q1.imp id (fun q1 => absurd q1.1 e2), fun q1 => q1.imp id (fun q1 => absurd q1.1 e2)⟩
          · show oBit (ox_up σ2 130 a _ (130 + r) q) y = true ↔ _
            rw [ox_up_ne (by omega)]
            refine (h2 r hr q y hy).trans ⟨fun q1 => q1.imp id (fun q1 => ⟨q1.1, Or.inl q1.2⟩), fun q1 => q1.imp id (fun q1 => ⟨q1.1, q1.2.elim id (fun q2 => absurd q2.2 e)⟩)⟩
        generalize ox_up σ2 130 a (σ2 130 a ||| o1 b) = τ1 at u1 u2
        have hC1 : oC τ1 P := oC_ext h (u1 1 (by decide)) (fun o q1 q2 => u1 o (by omega))
        refine oT_N 3 rfl (oT_I (o := 10) (n := nI b) rfl (Or.inl ⟨rfl, by decide⟩) nb ?_)
        rw [cb, u1 10 (by decide), (a5 b (by omega)).2.1]
        -- rows of which none but the first got b
        have only0 : (P.kd b = 2 ∨ P.kd a = 2) → ∀ r, r < 12 → ∀ q y, y < 12 → (oBr τ1 (130 + r) q y = true ↔ oBr σ (130 + r) q y = true ∨ (q = a ∧ y < b + 1 ∧ oGb P r a y)) := fun hab2 r hr q y hy => by
          refine (u2 r hr q y hy).trans ⟨fun q1 => q1.imp id (fun q1 => ⟨q1.1, ?_⟩), fun q1 => q1.imp id (fun q1 => ⟨q1.1, ?_⟩)⟩
          · rcases q1.2 with q2 | q2
            · exact ⟨by omega, q2.2⟩
            · rw [q2.1, q2.2]
              exact ⟨by omega, hpg, Or.inl rfl⟩
          · obtain ⟨-, q2, q3⟩ := q1
            rcases Nat.lt_or_ge y b with q4 | q4
            · exact Or.inl ⟨q4, q3⟩
            · obtain rfl : y = b := by omega
              refine Or.inr ⟨rfl, ?_⟩
              rcases q3.2 with q5 | q5
              · exact q5
              · rcases hab2 with q6 | q6
                · exact absurd q6 q5.2.1
                · exact absurd q6 q5.1
        refine oT_N 2 rfl (oT_eq (P.kd b) 2 rfl rfl (by omega) (by decide) (fun q2 => ?_) (fun q2 => ?_))
        · have efn : oFn P a (b + 1) = true := by
            simp only [oFn]
            rw [decide_eq_true hth, decide_eq_true q2, decide_eq_true hab]
            simp
          have e := ih (b + 1) τ1 (by omega) (by omega) u1 (only0 (Or.inl q2))
          rw [efn, ← ox_inc b] at e
          exact oT_N 5 rfl e
        · have efn : oFn P a (b + 1) = oFn P a b := by
            simp only [oFn]
            rw [decide_eq_false q2, Bool.and_false, Bool.false_and, Bool.or_false]
          refine oT_N 3 rfl (oT_I (o := 10) (n := nI a) rfl (Or.inl ⟨rfl, by decide⟩) na ?_)
          rw [ca, u1 10 (by decide), (a5 a ha).2.1]
          refine oT_N 2 rfl (oT_eq (P.kd a) 2 rfl rfl (by omega) (by decide) (fun q3 => ?_) (fun q3 => ?_))
          · have e := ih (b + 1) τ1 (by omega) (by omega) u1 (only0 (Or.inr q3))
            rw [efn, ← ox_inc b] at e
            exact oT_N 2 rfl e
          · refine oT_N 5 rfl (oT_V rfl rfl rfl rfl (by omega) (by omega) (ot_fillPairs (fe := oFn P a b) hC1 ha (show b < P.n by omega) q3 q2) (fun x σ2 h => by cases h.1) (fun v τ2 hv => ?_))
            obtain ⟨hv, v1, v2⟩ := hv
            cases hv
            have e := ih (b + 1) τ2 (by omega) (by omega) (fun o ho => by rw [v1 o ho]; exact u1 o ho) (fun r hr q y hy => by
              rw [v2 r hr q y hy, u2 r hr q y hy]
              constructor
              · rintro ((q4 | ⟨q4, q5 | q5⟩) | ⟨q4, q5, q6⟩)
                · exact Or.inl q4
                · exact Or.inr ⟨q4, by omega, q5.2⟩
                · rw [q5.1, q5.2]
                  exact Or.inr ⟨q4, by omega, hpg, Or.inl rfl⟩
                · rw [q5]
                  exact Or.inr ⟨q4, by omega, hpg, Or.inr ⟨q3, q2, q6⟩⟩
              · rintro (q4 | ⟨q4, q5, q6⟩)
                · exact Or.inl (Or.inl q4)
                · rcases Nat.lt_or_ge y b with q7 | q7
                  · exact Or.inl (Or.inr ⟨q4, Or.inl ⟨q7, q6⟩⟩)
                  · obtain rfl : y = b := by omega
                    rcases q6.2 with q8 | q8
                    · exact Or.inl (Or.inr ⟨q4, Or.inr ⟨rfl, q8⟩⟩)
                    · exact Or.inr ⟨q4, rfl, q8.2.2⟩)
            rw [efn, ← ox_inc b] at e
            exact oT_N 2 rfl e
  have e := loop (P.n - (a + 1)) (a + 1) σ (by omega) (by omega) (fun _ _ => rfl) (fun r hr q y hy => ⟨Or.inl, fun q1 => q1.elim id (fun q1 => by
    have := q1.2.2.1
    rw [pga y (by omega)] at this
    cases this)⟩)
  rw [oFn_low (a + 1) (Nat.le_refl _), ← ox_inc a] at e
  exact oT_N 6 rfl e
set_option maxHeartbeats 1000000 in
theorem ot_fillSteadys (h : oC σ P) (h0 : σ 5 0 = nI P.n) (hk : 3 ≤ k) (hk9 : k ≤ 9) : oT L k 5 0 [some (.ref 5), some (.ref 1), none, none] [] σ (fun o σ' => o = .inl none ∧ (∀ o, o < 130 ∨ 141 < o → σ' o = σ o) ∧ ∀ r, r < 12 → (r = 0 ∨ 5 ≤ r) → ∀ a b, a < P.n → b < P.n → oBr σ' (130 + r) a b = oGv P σ r a b) := by
  obtain ⟨k, rfl⟩ : ∃ k', k = k' + 1 := ⟨k - 1, by omega⟩
  obtain ⟨⟨hT, hn, hok⟩, a2, a3, a4, a5, a6, a7, a8, a9⟩ := id h
  refine oT_N 2 rfl ?_
  have outer : ∀ (d a : Nat) (τ : ox_S) (l3 : Option Value), a + d = P.n → (∀ o, o < 130 ∨ 141 < o → τ o = σ o) → (∀ r, r < 12 → (r = 0 ∨ 5 ≤ r) → ∀ x b, x < a → b < P.n → oBr τ (130 + r) x b = oGv P σ r x b) → oT L (k + 1) 5 2 [some (.ref 5), some (.ref 1), some (.int (nI a)), l3] [] τ (fun o σ' => o = .inl none ∧ (∀ o, o < 130 ∨ 141 < o → σ' o = σ o) ∧ ∀ r, r < 12 → (r = 0 ∨ 5 ≤ r) → ∀ a b, a < P.n → b < P.n → oBr σ' (130 + r) a b = oGv P σ r a b) := by
    intro d
    induction d with
    | zero =>
      intro a τ l3 ha h1 h2
      refine oT_N 4 rfl (oT_le P.n a (by rw [h1 5 (by decide)]; exact h0) rfl (by omega) (by omega) (fun _ => ?_) (fun q => by omega))
      exact oT_Retv rfl rfl ⟨rfl, h1, fun r hr hr2 x b hx hb => h2 r hr hr2 x b (by omega) hb⟩
    | succ d ih =>
      intro a τ l3 ha h1 h2
      have na : ¬ (nI a < 0 ∨ 12 ≤ (nI a).toNatClampNeg) := ox_ix (by omega) (by decide)
      have ca : (nI a).toNatClampNeg = a := nI_clamp (by omega)
      refine oT_N 4 rfl (oT_le P.n a (by rw [h1 5 (by decide)]; exact h0) rfl (by omega) (by omega) (fun q => by omega) (fun _ => ?_))
      have zero : ∀ (d r : Nat) (τ' : ox_S), r + d = 12 → 5 ≤ r → (∀ o, o < 130 ∨ 141 < o → τ' o = σ o) → (∀ r', r' < 12 → (r' = 0 ∨ 5 ≤ r') → ∀ x b, x < a → b < P.n → oBr τ' (130 + r') x b = oGv P σ r' x b) → (∀ r', 5 ≤ r' → r' < r → τ' (130 + r') a = 0) → oT L (k + 1) 5 12 [some (.ref 5), some (.ref 1), some (.int (nI a)), some (.int (nI r))] [] τ' (fun o σ' => o = .inl none ∧ (∀ o, o < 130 ∨ 141 < o → σ' o = σ o) ∧ ∀ r, r < 12 → (r = 0 ∨ 5 ≤ r) → ∀ a b, a < P.n → b < P.n → oBr σ' (130 + r) a b = oGv P σ r a b) := by
        intro d
        induction d with
        | zero =>
          intro r τ' hr h5 g1 g2 g3
          refine oT_N 3 rfl (oT_le 12 r rfl rfl (by decide) (by omega) (fun _ => ?_) (fun q => by omega))
          refine oT_N 3 rfl (oT_A (o := 129) (n := nI 0) rfl ⟨rfl, by decide⟩ (ox_ix (N := 40) (by decide) (by decide)) ?_)
          rw [show (nI 0).toNatClampNeg = 0 from rfl]
          refine oT_N 2 rfl (oT_Is (o := 130) (n := nI a) (x := 0) rfl ⟨rfl, by decide⟩ na ?_)
          rw [ca]
          refine oT_N 3 rfl (oT_A (o := 129) (n := nI 6) rfl ⟨rfl, by decide⟩ (ox_ix (N := 40) (by decide) (by decide)) ?_)
          rw [show (nI 6).toNatClampNeg = 6 from rfl]
          refine oT_N 4 rfl (oT_I (o := 13) (n := nI a) rfl (Or.inl ⟨rfl, by decide⟩) na ?_)
          rw [ca, ox_up_ne (by decide), g1 13 (by decide)]
          refine oT_Is (o := 136) (n := nI a) (x := σ 13 a) rfl ⟨rfl, by decide⟩ na ?_
          rw [ca]
          have u1 : ∀ o, o < 130 ∨ 141 < o → ox_up (ox_up τ' 130 a 0) 136 a (σ 13 a) o = σ o := fun o ho => by rw [ox_up_ne (by omega), ox_up_ne (by omega)]; exact g1 o ho
          have u2 : ∀ r', r' < 12 → (r' = 0 ∨ 5 ≤ r') → ∀ x b, x < a → b < P.n → oBr (ox_up (ox_up τ' 130 a 0) 136 a (σ 13 a)) (130 + r') x b = oGv P σ r' x b := fun r' q1 q2 x b q3 q4 => by
            have e : ox_up (ox_up τ' 130 a 0) 136 a (σ 13 a) (130 + r') x = τ' (130 + r') x := by
              by_cases e6 : r' = 6
              · subst e6
                show ox_up (ox_up τ' 130 a 0) 136 a (σ 13 a) 136 x = τ' 136 x
                rw [ox_up_at, if_neg (by omega), ox_up_ne (by decide)]
              · rw [ox_up_ne (by omega)]
                by_cases e0 : r' = 0
                · subst e0
                  show ox_up τ' 130 a 0 130 x = τ' 130 x
                  rw [ox_up_at, if_neg (by omega)]
                · rw [ox_up_ne (by omega)]
            unfold oBr
            rw [e]
            exact g2 r' q1 q2 x b q3 q4
          have u3 : ∀ r', r' < 12 → (r' = 0 ∨ 5 ≤ r') → ox_up (ox_up τ' 130 a 0) 136 a (σ 13 a) (130 + r') a = if r' = 6 then σ 13 a else 0 := fun r' q1 q2 => by
            by_cases e6 : r' = 6
            · subst e6
              show ox_up (ox_up τ' 130 a 0) 136 a (σ 13 a) 136 a = _
              rw [ox_up_at, if_pos rfl, if_pos rfl]
            · rw [if_neg e6, ox_up_ne (by omega)]
              by_cases e0 : r' = 0
              · subst e0
                show ox_up τ' 130 a 0 130 a = 0
                rw [ox_up_at, if_pos rfl]
              · rw [ox_up_ne (by omega)]
                exact g3 r' (by omega) (by omega)
          generalize ox_up (ox_up τ' 130 a 0) 136 a (σ 13 a) = τ1 at u1 u2 u3
          refine oT_N 3 rfl (oT_V rfl rfl rfl rfl (by omega) (by omega) (ot_fillBehinds (a := a) (oC_ext h (u1 1 (by decide)) (fun o q1 q2 => u1 o (by omega))) (by rw [u1 5 (by decide)]; exact h0) (by omega) (by omega) (by omega)) (fun x σ2 h => by cases h.1) (fun v τ2 hv => ?_))
          obtain ⟨hv, v1, v2⟩ := hv
          cases hv
          have e := ih (a + 1) τ2 (some (.int (nI r))) (by omega) (fun o ho => by rw [v1 o ho]; exact u1 o ho) (fun r' q1 q2 x b q3 q4 => by
            have key : oBr τ2 (130 + r') x b = true ↔ oGv P σ r' x b = true := by
              rw [v2 r' q1 x b (by omega)]
              rcases Nat.lt_or_ge x a with q5 | q5
              · rw [u2 r' q1 q2 x b q5 q4]
                exact ⟨fun q => q.elim id (fun q => absurd q.1 (by omega)), Or.inl⟩
              · obtain rfl : x = a := by omega
                have e3 := u3 r' q1 q2
                have hb0 : oBr τ1 (130 + r') x b = oBit (if r' = 6 then σ 13 x else 0) b := by unfold oBr; rw [e3]
                rw [hb0]
                by_cases e6 : r' = 6
                · subst e6
                  rw [if_pos rfl, (a5 x (by omega)).2.2.2.2 b (by omega), decide_eq_true q4, Bool.true_and]
                  refine ⟨fun q => q.elim id (fun q => ?_), Or.inl⟩
                  rcases q.2.2.2 with e9 | ⟨-, -, e9⟩
                  · omega
                  · rcases e9 with e9 | e9 | e9 <;> omega
                · rw [if_neg e6, oBit_0, ← oGb_gv (σ := σ) ⟨hT, hn, hok⟩ (show x < P.n by omega) q4 q1 (by omega)]
                  exact ⟨fun q => q.elim (fun q => (by cases q)) (fun q => q.2.2), fun q => Or.inr ⟨rfl, q4, q⟩⟩
            exact Bool.eq_iff_iff.mpr key)
          rw [← ox_inc a] at e
          exact oT_N 2 rfl e
        | succ d ihr =>
          intro r τ' hr h5 g1 g2 g3
          have rr : oRw (130 + r) := by have := oRw_77 r (by omega); first | exact this.1 | exact this.2
          refine oT_N 3 rfl (oT_le 12 r rfl rfl (by decide) (by omega) (fun q => by omega) (fun _ => ?_))
          refine oT_N 3 rfl (oT_A (o := 129) (n := nI r) rfl ⟨rfl, by decide⟩ (ox_ix (N := 40) (by omega) (by decide)) ?_)
          rw [nI_clamp (show r < 2 ^ 31 by omega)]
          refine oT_N 2 rfl (oT_Is (o := 130 + r) (n := nI a) (x := 0) rfl ⟨rr.1, rr.2.1⟩ (ox_ixL rr.2.1 rr.2.2 (by omega) (by decide)) ?_)
          rw [ca]
          have e := ihr (r + 1) (ox_up τ' (130 + r) a 0) (by omega) (by omega) (fun o ho => by rw [ox_up_ne (by omega)]; exact g1 o ho) (fun r' q1 q2 x b q3 q4 => by
            have e : ox_up τ' (130 + r) a 0 (130 + r') x = τ' (130 + r') x := by
              by_cases e2 : r' = r
              · subst e2
                rw [ox_up_at, if_neg (by omega)]
              · rw [ox_up_ne (by omega)]
            unfold oBr
            rw [e]
            exact g2 r' q1 q2 x b q3 q4) (fun r' q1 q2 => by
            by_cases e2 : r' = r
            · subst e2
              rw [ox_up_at, if_pos rfl]
            · rw [ox_up_ne (by omega)]
              exact g3 r' q1 (by omega))
          rw [← ox_inc r] at e
          exact oT_N 2 rfl e
      exact oT_N 2 rfl (zero 7 5 τ (by omega) (by omega) h1 h2 (fun r' q1 q2 => by omega))
  exact outer P.n 0 σ none (by omega) (fun _ _ => rfl) (fun r hr hr2 x b hx => by omega)
set_option maxHeartbeats 1000000 in
theorem ot_fillMades {r : Nat} (hm : oCo σ M) (h12 : 12 ≤ r) (hr : r < M.R) (h0 : σ 5 0 = nI n) (hn : n ≤ 12) (hk : 2 ≤ k) (hk9 : k ≤ 9) : oT L k 10 0 [some (.ref 5), some (.ref 2), some (.int (nI r)), none, none, none] [] σ (fun o σ' => o = .inl none ∧ (∀ o, o ≠ 130 + r → σ' o = σ o) ∧ ∀ a b, a < n → b < n → (oBr σ' (130 + r) a b = true ↔ oHw n (M.hw r) (oBr σ (130 + M.lf r)) (oBr σ (130 + M.rt r)) a b)) := by
  obtain ⟨k, rfl⟩ : ∃ k', k = k' + 1 := ⟨k - 1, by omega⟩
  obtain ⟨⟨m1, m2, m3, m4, m5⟩, g1, g2, g3, g4⟩ := id hm
  obtain ⟨s1, s2, s3⟩ := m4 r h12 hr
  obtain ⟨t1, t2, t3⟩ := g3 r h12 hr
  have n40 : ¬ (nI r < 0 ∨ 40 ≤ (nI r).toNatClampNeg) := ox_ix (by omega) (by decide)
  have cr : (nI r).toNatClampNeg = r := nI_clamp (by omega)
  have rd : oRw (130 + r) := by have := oRw_77 r (by omega); first | exact this.1 | exact this.2
  have rs : oRw (130 + M.lf r) := by have := oRw_77 (M.lf r) (by omega); first | exact this.1 | exact this.2
  have rt : oRw (130 + M.rt r) := by have := oRw_77 (M.rt r) (by omega); first | exact this.1 | exact this.2
  refine oT_N 5 rfl (oT_I (o := 23) (n := nI r) rfl (Or.inl ⟨rfl, by decide⟩) n40 ?_)
  rw [cr, t2]
  refine oT_A (o := 129) (n := nI (M.lf r)) rfl ⟨rfl, by decide⟩ (ox_ix (N := 40) (by omega) (by decide)) ?_
  rw [nI_clamp (by omega)]
  refine oT_N 6 rfl (oT_I (o := 24) (n := nI r) rfl (Or.inl ⟨rfl, by decide⟩) n40 ?_)
  rw [cr, t3]
  refine oT_A (o := 129) (n := nI (M.rt r)) rfl ⟨rfl, by decide⟩ (ox_ix (N := 40) (by omega) (by decide)) ?_
  rw [nI_clamp (by omega)]
  refine oT_N 4 rfl (oT_A (o := 129) (n := nI r) rfl ⟨rfl, by decide⟩ n40 ?_)
  rw [cr]
  refine oT_N 4 rfl (oT_I (o := 22) (n := nI r) rfl (Or.inl ⟨rfl, by decide⟩) n40 ?_)
  rw [cr, t1]
  have each : ∀ h, h ≤ 2 → M.hw r = h → oT L (k + 1) 10 105 [some (.ref 5), some (.ref 2), some (.int (nI r)), some (.ref (130 + M.lf r)), some (.ref (130 + M.rt r)), some (.ref (130 + r))] [] σ (fun o σ' => o = .inl none ∧ (∀ o, o ≠ 130 + r → σ' o = σ o) ∧ ∀ a b, a < n → b < n → (oBr σ' (130 + r) a b = true ↔ oHw n (M.hw r) (oBr σ (130 + M.lf r)) (oBr σ (130 + M.rt r)) a b)) := fun h hh he => by
    refine oT_N 6 rfl (oT_I (o := 22) (n := nI r) rfl (Or.inl ⟨rfl, by decide⟩) n40 ?_)
    rw [cr, t1, he]
    refine oT_N 2 rfl (oT_S rfl rfl rfl (by omega) (by omega) (PostC := fun o σ' => o = .inl none ∧ (∀ o, o ≠ 130 + r → σ' o = σ o) ∧ ∀ a, a < n → σ' (130 + r) a = if h = 0 then σ (130 + M.lf r) a ||| σ (130 + M.rt r) a else if h = 1 then σ (130 + M.lf r) a &&& σ (130 + M.rt r) a else σ (130 + M.lf r) a &&& (σ (130 + M.rt r) a ^^^ Int32.ofInt (-1))) (by
      have e := ot_fillEach (L := L) (k := k) (σ := σ) (h := h) (n := n) rd rs rt (by omega) (by omega) hn hh
      rw [← h0] at e
      exact e) (fun x σ2 h => by cases h.1) (fun v σ2 hv => ?_))
    obtain ⟨hv, v1, v2⟩ := hv
    cases hv
    refine oT_Retv rfl rfl ⟨rfl, v1, fun a b ha hb => ?_⟩
    have hb32 : decide (b < 32) = true := decide_eq_true (by omega)
    unfold oBr
    rw [v2 a ha]
    rcases Nat.lt_or_ge h 1 with q | q
    · obtain rfl : h = 0 := by omega
      rw [if_pos rfl, oBit_or, Bool.or_eq_true]
      exact Iff.rfl
    · rcases Nat.lt_or_ge h 2 with q2 | q2
      · obtain rfl : h = 1 := by omega
        rw [if_neg (by omega), if_pos rfl, oBit_and, Bool.and_eq_true]
        exact Iff.rfl
      · obtain rfl : h = 2 := by omega
        rw [if_neg (by omega), if_neg (by omega), oBit_and, oBit_no, hb32, Bool.true_and, Bool.and_eq_true, Bool.not_eq_true']
        exact Iff.rfl
  rcases Nat.lt_or_ge (M.hw r) 3 with q | q
  · have hc : M.hw r = 0 ∨ M.hw r = 1 ∨ M.hw r = 2 := by omega
    rcases hc with e | e | e
    · have := each 0 (by omega) e
      rw [e] at this ⊢
      exact oT_N 1 rfl this
    · have := each 1 (by omega) e
      rw [e] at this ⊢
      exact oT_N 1 rfl this
    · have := each 2 (by omega) e
      rw [e] at this ⊢
      exact oT_N 1 rfl this
  · have hc : M.hw r = 3 ∨ M.hw r = 4 ∨ M.hw r = 5 := by omega
    rcases hc with e | e | e
    · rw [e]
      refine oT_N 1 rfl ?_
      refine oT_N 5 rfl (oT_S rfl rfl rfl (by omega) (by omega) (PostC := fun o σ' => o = .inl none ∧ (∀ o, o ≠ 130 + r → σ' o = σ o) ∧ ∀ a b, a < n → (oBr σ' (130 + r) a b = true ↔ ∃ c, c < n ∧ oBr σ (130 + M.lf r) a c = true ∧ oBr σ (130 + M.rt r) c b = true)) (by
        have e := ot_fillJoin (L := L) (k := k) (σ := σ) (n := n) rd rs rt (by omega) (by omega) hn
        rw [← h0] at e
        exact e) (fun x σ2 h => by cases h.1) (fun v σ2 hv => ?_))
      obtain ⟨hv, v1, v2⟩ := hv
      cases hv
      exact oT_N 1 rfl (oT_Retv rfl rfl ⟨rfl, v1, fun a b ha hb => v2 a b ha⟩)
    · rw [e]
      refine oT_N 1 rfl ?_
      refine oT_N 4 rfl (oT_S rfl rfl rfl (by omega) (by omega) (PostC := fun o σ' => o = .inl none ∧ (∀ o, o ≠ 130 + r → σ' o = σ o) ∧ ∀ a b, a < n → b < n → oBr σ' (130 + r) a b = oBr σ (130 + M.lf r) b a) (by
        have e := ot_fillTurn (L := L) (k := k) (σ := σ) (n := n) rd rs (by omega) hn
        rw [← h0] at e
        exact e) (fun x σ2 h => by cases h.1) (fun v σ2 hv => ?_))
      obtain ⟨hv, v1, v2⟩ := hv
      cases hv
      exact oT_N 1 rfl (oT_Retv rfl rfl ⟨rfl, v1, fun a b ha hb => by rw [v2 a b ha hb]; exact Iff.rfl⟩)
    · rw [e]
      refine oT_N 1 rfl ?_
      refine oT_N 4 rfl (oT_S rfl rfl rfl (by omega) (by omega) (PostC := fun o σ' => o = .inl none ∧ (∀ o, o ≠ 130 + r → σ' o = σ o) ∧ ∀ a b, a < n → b < n → (oBr σ' (130 + r) a b = true ↔ oTc n (oBr σ (130 + M.lf r)) a b)) (by
        have e := ot_fillClosure (L := L) (k := k) (σ := σ) (n := n) rd rs (by omega) hn
        rw [← h0] at e
        exact e) (fun x σ2 h => by cases h.1) (fun v σ2 hv => ?_))
      obtain ⟨hv, v1, v2⟩ := hv
      cases hv
      exact oT_N 1 rfl (oT_Retv rfl rfl ⟨rfl, v1, fun a b ha hb => v2 a b ha hb⟩)
end OYEs
