/-- an array of twelve masks -/
def oRw (o : Nat) : Prop := ox_k o = 10 ∧ o < 174 ∧ ox_nz o = 12
theorem oRw_77 : ∀ r, r < 40 → oRw (77 + r) ∧ oRw (130 + r) := by
  unfold oRw
  decide
/-- a row's value -/
def oBr (σ : ox_S) (o : Nat) (a b : Nat) : Bool := oBit (σ o a) b
section OXW
variable {L k d s t n : Nat} {σ : ox_S}
theorem ot_fillEach {h : Nat} (hd : oRw d) (hs : oRw s) (ht : oRw t) (hds : s ≠ d) (hdt : t ≠ d) (hn : n ≤ 12) (hh : h ≤ 2) : oT L k 93 0 [some (.ref d), some (.ref s), some (.ref t), some (.int (nI h)), some (.int (nI n)), none] [] σ (fun o σ' => o = .inl none ∧ (∀ o, o ≠ d → σ' o = σ o) ∧ ∀ a, a < n → σ' d a = if h = 0 then σ s a ||| σ t a else if h = 1 then σ s a &&& σ t a else σ s a &&& (σ t a ^^^ Int32.ofInt (-1))) := by
  refine oT_N 2 rfl ?_
  have loop : ∀ (e a : Nat) (τ : ox_S), a + e = n → (∀ o, o ≠ d → τ o = σ o) → (∀ x, x < a → τ d x = if h = 0 then σ s x ||| σ t x else if h = 1 then σ s x &&& σ t x else σ s x &&& (σ t x ^^^ Int32.ofInt (-1))) → oT L k 93 3 [some (.ref d), some (.ref s), some (.ref t), some (.int (nI h)), some (.int (nI n)), some (.int (nI a))] [] τ (fun o σ' => o = .inl none ∧ (∀ o, o ≠ d → σ' o = σ o) ∧ ∀ a, a < n → σ' d a = if h = 0 then σ s a ||| σ t a else if h = 1 then σ s a &&& σ t a else σ s a &&& (σ t a ^^^ Int32.ofInt (-1))) := by
    intro e
    induction e with
    | zero =>
      intro a τ ha h1 h2
      refine oT_N 3 rfl (oT_le n a rfl rfl (by omega) (by omega) (fun _ => ?_) (fun q => by omega))
      exact oT_Retv rfl rfl ⟨rfl, h1, fun x hx => h2 x (by omega)⟩
    | succ e ih =>
      intro a τ ha h1 h2
      have hc : (nI a).toNatClampNeg = a := nI_clamp (by omega)
      have step : ∀ x, x = (if h = 0 then σ s a ||| σ t a else if h = 1 then σ s a &&& σ t a else σ s a &&& (σ t a ^^^ Int32.ofInt (-1))) → oT L k 93 3 [some (.ref d), some (.ref s), some (.ref t), some (.int (nI h)), some (.int (nI n)), some (.int (nI a + Int32.ofInt 1))] [] (ox_up τ d a x) (fun o σ' => o = .inl none ∧ (∀ o, o ≠ d → σ' o = σ o) ∧ ∀ a, a < n → σ' d a = if h = 0 then σ s a ||| σ t a else if h = 1 then σ s a &&& σ t a else σ s a &&& (σ t a ^^^ Int32.ofInt (-1))) := fun x hx => by
        have e := ih (a + 1) (ox_up τ d a x) (by omega) (fun o ho => by rw [ox_up_ne ho]; exact h1 o ho) (fun y hy => by
          rw [ox_up_at]
          by_cases q : y = a
          · rw [if_pos q, q]; exact hx
          · rw [if_neg q]; exact h2 y (by omega))
        rw [← ox_inc a] at e
        exact e
      refine oT_N 3 rfl (oT_le n a rfl rfl (by omega) (by omega) (fun q => by omega) (fun _ => ?_))
      refine oT_N 2 rfl (oT_eq h 0 rfl rfl (by omega) (by decide) (fun q => ?_) (fun q => ?_))
      · refine oT_N 4 rfl (oT_I (o := s) (n := nI a) rfl (Or.inl ⟨hs.1, hs.2.1⟩) (ox_ixL hs.2.1 hs.2.2 (by omega) (by decide)) ?_)
        rw [hc, h1 s hds]
        refine oT_N 2 rfl (oT_I (o := t) (n := nI a) rfl (Or.inl ⟨ht.1, ht.2.1⟩) (ox_ixL ht.2.1 ht.2.2 (by omega) (by decide)) ?_)
        rw [hc, h1 t hdt]
        refine oT_N 1 rfl (oT_Is (o := d) (n := nI a) (x := σ s a ||| σ t a) rfl ⟨hd.1, hd.2.1⟩ (ox_ixL hd.2.1 hd.2.2 (by omega) (by decide)) ?_)
        rw [hc]
        exact oT_N 3 rfl (step _ (by rw [if_pos q]))
      · refine oT_N 3 rfl (oT_eq h 1 rfl rfl (by omega) (by decide) (fun q1 => ?_) (fun q1 => ?_))
        · refine oT_N 4 rfl (oT_I (o := s) (n := nI a) rfl (Or.inl ⟨hs.1, hs.2.1⟩) (ox_ixL hs.2.1 hs.2.2 (by omega) (by decide)) ?_)
          rw [hc, h1 s hds]
          refine oT_N 2 rfl (oT_I (o := t) (n := nI a) rfl (Or.inl ⟨ht.1, ht.2.1⟩) (ox_ixL ht.2.1 ht.2.2 (by omega) (by decide)) ?_)
          rw [hc, h1 t hdt]
          refine oT_N 1 rfl (oT_Is (o := d) (n := nI a) (x := σ s a &&& σ t a) rfl ⟨hd.1, hd.2.1⟩ (ox_ixL hd.2.1 hd.2.2 (by omega) (by decide)) ?_)
          rw [hc]
          exact oT_N 3 rfl (step _ (by rw [if_neg q, if_pos q1]))
        · refine oT_N 4 rfl (oT_I (o := s) (n := nI a) rfl (Or.inl ⟨hs.1, hs.2.1⟩) (ox_ixL hs.2.1 hs.2.2 (by omega) (by decide)) ?_)
          rw [hc, h1 s hds]
          refine oT_N 2 rfl (oT_I (o := t) (n := nI a) rfl (Or.inl ⟨ht.1, ht.2.1⟩) (ox_ixL ht.2.1 ht.2.2 (by omega) (by decide)) ?_)
          rw [hc, h1 t hdt]
          refine oT_N 3 rfl (oT_Is (o := d) (n := nI a) (x := σ s a &&& (σ t a ^^^ Int32.ofInt (-1))) rfl ⟨hd.1, hd.2.1⟩ (ox_ixL hd.2.1 hd.2.2 (by omega) (by decide)) ?_)
          rw [hc]
          exact oT_N 2 rfl (step _ (by rw [if_neg q, if_neg q1]))
  exact loop n 0 σ (by omega) (fun _ _ => rfl) (fun x hx => by omega)
theorem ot_fillJoin (hd : oRw d) (hs : oRw s) (ht : oRw t) (hds : s ≠ d) (hdt : t ≠ d) (hn : n ≤ 12) : oT L k 94 0 [some (.ref d), some (.ref s), some (.ref t), some (.int (nI n)), none, none] [] σ (fun o σ' => o = .inl none ∧ (∀ o, o ≠ d → σ' o = σ o) ∧ ∀ a b, a < n → (oBr σ' d a b = true ↔ ∃ c, c < n ∧ oBr σ s a c = true ∧ oBr σ t c b = true)) := by
  refine oT_N 2 rfl ?_
  have outer : ∀ (e a : Nat) (τ : ox_S) (l5 : Option Value), a + e = n → (∀ o, o ≠ d → τ o = σ o) → (∀ x b, x < a → (oBr τ d x b = true ↔ ∃ c, c < n ∧ oBr σ s x c = true ∧ oBr σ t c b = true)) → oT L k 94 3 [some (.ref d), some (.ref s), some (.ref t), some (.int (nI n)), some (.int (nI a)), l5] [] τ (fun o σ' => o = .inl none ∧ (∀ o, o ≠ d → σ' o = σ o) ∧ ∀ a b, a < n → (oBr σ' d a b = true ↔ ∃ c, c < n ∧ oBr σ s a c = true ∧ oBr σ t c b = true)) := by
    intro e
    induction e with
    | zero =>
      intro a τ l5 ha h1 h2
      refine oT_N 3 rfl (oT_le n a rfl rfl (by omega) (by omega) (fun _ => ?_) (fun q => by omega))
      exact oT_Retv rfl rfl ⟨rfl, h1, fun x b hx => h2 x b (by omega)⟩
    | succ e ih =>
      intro a τ l5 ha h1 h2
      have hc : (nI a).toNatClampNeg = a := nI_clamp (by omega)
      refine oT_N 3 rfl (oT_le n a rfl rfl (by omega) (by omega) (fun q => by omega) (fun _ => ?_))
      refine oT_N 3 rfl (oT_Is (o := d) (n := nI a) (x := 0) rfl ⟨hd.1, hd.2.1⟩ (ox_ixL hd.2.1 hd.2.2 (by omega) (by decide)) ?_)
      rw [hc]
      have inner : ∀ (e c : Nat) (τ' : ox_S), c + e = n → (∀ o, o ≠ d → τ' o = σ o) → (∀ x b, x < a → (oBr τ' d x b = true ↔ ∃ c, c < n ∧ oBr σ s x c = true ∧ oBr σ t c b = true)) → (∀ b, oBr τ' d a b = true ↔ ∃ c', c' < c ∧ oBr σ s a c' = true ∧ oBr σ t c' b = true) → oT L k 94 17 [some (.ref d), some (.ref s), some (.ref t), some (.int (nI n)), some (.int (nI a)), some (.int (nI c))] [] τ' (fun o σ' => o = .inl none ∧ (∀ o, o ≠ d → σ' o = σ o) ∧ ∀ a b, a < n → (oBr σ' d a b = true ↔ ∃ c, c < n ∧ oBr σ s a c = true ∧ oBr σ t c b = true)) := by
        intro e
        induction e with
        | zero =>
          intro c τ' hcn g1 g2 g3
          obtain rfl : c = n := by omega
          refine oT_N 3 rfl (oT_le c c rfl rfl (by omega) (by omega) (fun _ => ?_) (fun q => by omega))
          have e := ih (a + 1) τ' (some (.int (nI c))) (by omega) g1 (fun x b hx => by
            rcases Nat.lt_or_ge x a with q | q
            · exact g2 x b q
            · obtain rfl : x = a := by omega
              exact g3 b)
          rw [← ox_inc a] at e
          exact oT_N 2 rfl e
        | succ e ihc =>
          intro c τ' hcn g1 g2 g3
          have hcc : (nI c).toNatClampNeg = c := nI_clamp (by omega)
          refine oT_N 3 rfl (oT_le n c rfl rfl (by omega) (by omega) (fun q => by omega) (fun _ => ?_))
          refine oT_N 2 rfl (oT_I (o := s) (n := nI a) rfl (Or.inl ⟨hs.1, hs.2.1⟩) (ox_ixL hs.2.1 hs.2.2 (by omega) (by decide)) ?_)
          rw [hc, g1 s hds]
          refine oT_N 5 rfl (oT_bit c (by omega) (fun q => ?_) (fun q => ?_))
          · have e := ihc (c + 1) τ' (by omega) g1 g2 (fun b => by
              rw [g3 b]
              constructor
              · rintro ⟨c', q1, q2⟩
                exact ⟨c', by omega, q2⟩
              · rintro ⟨c', q1, q2, q3⟩
                rcases Nat.lt_or_ge c' c with q4 | q4
                · exact ⟨c', q4, q2, q3⟩
                · obtain rfl : c' = c := by omega
                  exact absurd (q.symm.trans q2) (by decide))
            rw [← ox_inc c] at e
            exact oT_N 2 rfl e
          · refine oT_N 3 rfl (oT_I (o := d) (n := nI a) rfl (Or.inl ⟨hd.1, hd.2.1⟩) (ox_ixL hd.2.1 hd.2.2 (by omega) (by decide)) ?_)
            rw [hc]
            refine oT_N 2 rfl (oT_I (o := t) (n := nI c) rfl (Or.inl ⟨ht.1, ht.2.1⟩) (ox_ixL ht.2.1 ht.2.2 (by omega) (by decide)) ?_)
            rw [hcc, g1 t hdt]
            refine oT_N 1 rfl (oT_Is (o := d) (n := nI a) (x := τ' d a ||| σ t c) rfl ⟨hd.1, hd.2.1⟩ (ox_ixL hd.2.1 hd.2.2 (by omega) (by decide)) ?_)
            rw [hc]
            have e := ihc (c + 1) (ox_up τ' d a (τ' d a ||| σ t c)) (by omega) (fun o ho => by rw [ox_up_ne ho]; exact g1 o ho) (fun x b hx => by
              unfold oBr
              rw [ox_up_at, if_neg (by omega)]
              exact g2 x b hx) (fun b => by
              show oBit (ox_up τ' d a (τ' d a ||| σ t c) d a) b = true ↔ _
              rw [ox_up_at, if_pos rfl, oBit_or, Bool.or_eq_true]
              constructor
              · rintro (q1 | q1)
                · obtain ⟨c', q2, q3⟩ := (g3 b).mp q1
                  exact ⟨c', by omega, q3⟩
                · exact ⟨c, by omega, q, q1⟩
              · rintro ⟨c', q1, q2, q3⟩
                rcases Nat.lt_or_ge c' c with q4 | q4
                · exact Or.inl ((g3 b).mpr ⟨c', q4, q2, q3⟩)
                · obtain rfl : c' = c := by omega
                  exact Or.inr q3)
            rw [← ox_inc c] at e
            exact oT_N 2 rfl e
      refine oT_N 2 rfl (inner n 0 _ (by omega) (fun o ho => by rw [ox_up_ne ho]; exact h1 o ho) (fun x b hx => ?_) (fun b => ?_))
      · unfold oBr
        rw [ox_up_at, if_neg (by omega)]
        exact h2 x b hx
      · show oBit (ox_up τ d a 0 d a) b = true ↔ _
        rw [ox_up_at, if_pos rfl, oBit_0]
        exact ⟨fun q => (by cases q), fun ⟨c', q, _⟩ => by omega⟩
  exact outer n 0 σ none (by omega) (fun _ _ => rfl) (fun x b hx => by omega)
theorem ot_fillTurn (hd : oRw d) (hs : oRw s) (hds : s ≠ d) (hn : n ≤ 12) : oT L k 95 0 [some (.ref d), some (.ref s), some (.int (nI n)), none, none] [] σ (fun o σ' => o = .inl none ∧ (∀ o, o ≠ d → σ' o = σ o) ∧ ∀ a b, a < n → b < n → oBr σ' d a b = oBr σ s b a) := by
  refine oT_N 2 rfl ?_
  have outer : ∀ (e a : Nat) (τ : ox_S) (l5 : Option Value), a + e = n → (∀ o, o ≠ d → τ o = σ o) → (∀ x b, x < a → b < n → oBr τ d x b = oBr σ s b x) → oT L k 95 2 [some (.ref d), some (.ref s), some (.int (nI n)), some (.int (nI a)), l5] [] τ (fun o σ' => o = .inl none ∧ (∀ o, o ≠ d → σ' o = σ o) ∧ ∀ a b, a < n → b < n → oBr σ' d a b = oBr σ s b a) := by
    intro e
    induction e with
    | zero =>
      intro a τ l5 ha h1 h2
      refine oT_N 3 rfl (oT_le n a rfl rfl (by omega) (by omega) (fun _ => ?_) (fun q => by omega))
      exact oT_Retv rfl rfl ⟨rfl, h1, fun x b hx => h2 x b (by omega)⟩
    | succ e ih =>
      intro a τ l5 ha h1 h2
      have hc : (nI a).toNatClampNeg = a := nI_clamp (by omega)
      refine oT_N 3 rfl (oT_le n a rfl rfl (by omega) (by omega) (fun q => by omega) (fun _ => ?_))
      refine oT_N 3 rfl (oT_Is (o := d) (n := nI a) (x := 0) rfl ⟨hd.1, hd.2.1⟩ (ox_ixL hd.2.1 hd.2.2 (by omega) (by decide)) ?_)
      rw [hc]
      have inner : ∀ (e c : Nat) (τ' : ox_S), c + e = n → (∀ o, o ≠ d → τ' o = σ o) → (∀ x b, x < a → b < n → oBr τ' d x b = oBr σ s b x) → (∀ b, b < n → oBr τ' d a b = (decide (b < c) && oBr σ s b a)) → oT L k 95 14 [some (.ref d), some (.ref s), some (.int (nI n)), some (.int (nI a)), some (.int (nI c))] [] τ' (fun o σ' => o = .inl none ∧ (∀ o, o ≠ d → σ' o = σ o) ∧ ∀ a b, a < n → b < n → oBr σ' d a b = oBr σ s b a) := by
        intro e
        induction e with
        | zero =>
          intro c τ' hcn g1 g2 g3
          obtain rfl : c = n := by omega
          refine oT_N 3 rfl (oT_le c c rfl rfl (by omega) (by omega) (fun _ => ?_) (fun q => by omega))
          have e := ih (a + 1) τ' (some (.int (nI c))) (by omega) g1 (fun x b hx hb => by
            rcases Nat.lt_or_ge x a with q | q
            · exact g2 x b q hb
            · obtain rfl : x = a := by omega
              rw [g3 b hb, decide_eq_true hb]
              rfl)
          rw [← ox_inc a] at e
          exact oT_N 2 rfl e
        | succ e ihc =>
          intro c τ' hcn g1 g2 g3
          have hcc : (nI c).toNatClampNeg = c := nI_clamp (by omega)
          refine oT_N 3 rfl (oT_le n c rfl rfl (by omega) (by omega) (fun q => by omega) (fun _ => ?_))
          refine oT_N 2 rfl (oT_I (o := s) (n := nI c) rfl (Or.inl ⟨hs.1, hs.2.1⟩) (ox_ixL hs.2.1 hs.2.2 (by omega) (by decide)) ?_)
          rw [hcc, g1 s hds]
          refine oT_N 5 rfl (oT_bit a (by omega) (fun q => ?_) (fun q => ?_))
          · have e := ihc (c + 1) τ' (by omega) g1 g2 (fun b hb => by
              rw [g3 b hb]
              by_cases q2 : b = c
              · subst q2
                rw [show oBr σ s b a = false from q, Bool.and_false, Bool.and_false]
              · rw [show decide (b < c + 1) = decide (b < c) from by simp only [decide_eq_decide]; omega])
            rw [← ox_inc c] at e
            exact oT_N 2 rfl e
          · refine oT_N 3 rfl (oT_I (o := d) (n := nI a) rfl (Or.inl ⟨hd.1, hd.2.1⟩) (ox_ixL hd.2.1 hd.2.2 (by omega) (by decide)) ?_)
            rw [hc]
            refine oT_N 4 rfl (oT_Is (o := d) (n := nI a) (x := τ' d a ||| o1 c) rfl ⟨hd.1, hd.2.1⟩ (ox_ixL hd.2.1 hd.2.2 (by omega) (by decide)) ?_)
            rw [hc]
            have e := ihc (c + 1) (ox_up τ' d a (τ' d a ||| o1 c)) (by omega) (fun o ho => by rw [ox_up_ne ho]; exact g1 o ho) (fun x b hx hb => by
              unfold oBr
              rw [ox_up_at, if_neg (by omega)]
              exact g2 x b hx hb) (fun b hb => by
              show oBit (ox_up τ' d a (τ' d a ||| o1 c) d a) b = _
              rw [ox_up_at, if_pos rfl, oBit_or, oBit_1 (by omega), show oBit (τ' d a) b = _ from g3 b hb]
              by_cases q2 : b = c
              · subst q2
                rw [show oBr σ s b a = true from q]
                simp
              · rw [show decide (b < c + 1) = decide (b < c) from by simp only [decide_eq_decide]; omega, decide_eq_false q2, Bool.or_false])
            rw [← ox_inc c] at e
            exact oT_N 2 rfl e
      refine oT_N 2 rfl (inner n 0 _ (by omega) (fun o ho => by rw [ox_up_ne ho]; exact h1 o ho) (fun x b hx hb => ?_) (fun b hb => ?_))
      · unfold oBr
        rw [ox_up_at, if_neg (by omega)]
        exact h2 x b hx hb
      · show oBit (ox_up τ d a 0 d a) b = _
        rw [ox_up_at, if_pos rfl, oBit_0]
        simp
  exact outer n 0 σ none (by omega) (fun _ _ => rfl) (fun x b hx => by omega)
end OXW
