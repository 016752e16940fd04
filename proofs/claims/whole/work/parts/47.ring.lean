section OXX
variable {L k d s t n : Nat} {σ : ox_S}
/-- R is closed under steps over what is below c -/
def oCl (n c : Nat) (R : Nat → Nat → Bool) : Prop := ∀ x y z, x < n → y < n → z < c → R x z = true → R z y = true → R x y = true
theorem oCl_next {n c : Nat} {R R' : Nat → Nat → Bool} (hc : c < n) (h : oCl n c R) (hR : ∀ x y, x < n → y < n → (R' x y = true ↔ R x y = true ∨ (R x c = true ∧ R c y = true))) : oCl n (c + 1) R' := by
  intro x y z hx hy hz h1 h2
  have hzn : z < n := by omega
  rw [hR x z hx hzn] at h1
  rw [hR z y hzn hy] at h2
  rw [hR x y hx hy]
  rcases Nat.lt_or_ge z c with q | q
  · rcases h1 with h1 | ⟨h1, h3⟩ <;> rcases h2 with h2 | ⟨h2, h4⟩
    · exact Or.inl (h x y z hx hy q h1 h2)
    · exact Or.inr ⟨h x c z hx hc q h1 h2, h4⟩
    · exact Or.inr ⟨h1, h c y z hc hy q h3 h2⟩
    · exact Or.inr ⟨h1, h4⟩
  · obtain rfl : z = c := by omega
    refine Or.inr ⟨?_, ?_⟩
    · rcases h1 with h1 | h1
      · exact h1
      · exact h1.1
    · rcases h2 with h2 | h2
      · exact h2
      · exact h2.2
set_option maxHeartbeats 1000000 in
theorem ot_fillClosure (hd : oRw d) (hs : oRw s) (hds : s ≠ d) (hn : n ≤ 12) : oT L k 96 0 [some (.ref d), some (.ref s), some (.int (nI n)), none, none] [] σ (fun o σ' => o = .inl none ∧ (∀ o, o ≠ d → σ' o = σ o) ∧ ∀ a b, a < n → b < n → (oBr σ' d a b = true ↔ oTc n (oBr σ s) a b)) := by
  refine oT_N 2 rfl ?_
  -- over what lies between
  have outer : ∀ (e c : Nat) (τ : ox_S) (l4 : Option Value), c + e = n → (∀ o, o ≠ d → τ o = σ o) → oCl n c (oBr τ d) → (∀ a b, a < n → b < n → oBr σ s a b = true → oBr τ d a b = true) → (∀ a b, a < n → b < n → oBr τ d a b = true → oTc n (oBr σ s) a b) → oT L k 96 21 [some (.ref d), some (.ref s), some (.int (nI n)), some (.int (nI c)), l4] [] τ (fun o σ' => o = .inl none ∧ (∀ o, o ≠ d → σ' o = σ o) ∧ ∀ a b, a < n → b < n → (oBr σ' d a b = true ↔ oTc n (oBr σ s) a b)) := by
    intro e
    induction e with
    | zero =>
      intro c τ l4 hc h1 h2 h3 h4
      obtain rfl : c = n := by omega
      refine oT_N 3 rfl (oT_le c c rfl rfl (by omega) (by omega) (fun _ => ?_) (fun q => by omega))
      refine oT_Retv rfl rfl ⟨rfl, h1, fun a b ha hb => ⟨h4 a b ha hb, fun q => ?_⟩⟩
      exact q (fun x y => oBr τ d x y = true) (fun x y hx hy q => h3 x y hx hy q) (fun x y z hx hy hz q1 q2 => h2 x z y hx hz hy q1 q2)
    | succ e ih =>
      intro c τ l4 hc h1 h2 h3 h4
      have hcc : (nI c).toNatClampNeg = c := nI_clamp (by omega)
      refine oT_N 3 rfl (oT_le n c rfl rfl (by omega) (by omega) (fun q => by omega) (fun _ => ?_))
      have inner : ∀ (e a : Nat) (τ' : ox_S), a + e = n → (∀ o, o ≠ d → τ' o = σ o) → (∀ x y, x < n → y < n → (oBr τ' d x y = true ↔ oBr τ d x y = true ∨ (x < a ∧ oBr τ d x c = true ∧ oBr τ d c y = true))) → oT L k 96 29 [some (.ref d), some (.ref s), some (.int (nI n)), some (.int (nI c)), some (.int (nI a))] [] τ' (fun o σ' => o = .inl none ∧ (∀ o, o ≠ d → σ' o = σ o) ∧ ∀ a b, a < n → b < n → (oBr σ' d a b = true ↔ oTc n (oBr σ s) a b)) := by
        intro e
        induction e with
        | zero =>
          intro a τ' ha g1 g2
          obtain rfl : a = n := by omega
          refine oT_N 3 rfl (oT_le a a rfl rfl (by omega) (by omega) (fun _ => ?_) (fun q => by omega))
          have hR : ∀ x y, x < a → y < a → (oBr τ' d x y = true ↔ oBr τ d x y = true ∨ (oBr τ d x c = true ∧ oBr τ d c y = true)) := fun x y hx hy => by
            rw [g2 x y hx hy]
            exact ⟨fun q => q.imp id (fun q => q.2), fun q => q.imp id (fun q => ⟨hx, q⟩)⟩
          have e := ih (c + 1) τ' (some (.int (nI a))) (by omega) g1 (oCl_next (by omega) h2 hR) (fun x y hx hy q => (hR x y hx hy).mpr (Or.inl (h3 x y hx hy q))) (fun x y hx hy q => by
            rcases (hR x y hx hy).mp q with q | ⟨q1, q2⟩
            · exact h4 x y hx hy q
            · exact oTc_tr hx (by omega) hy (h4 x c hx (by omega) q1) (h4 c y (by omega) hy q2))
          rw [← ox_inc c] at e
          exact oT_N 2 rfl e
        | succ e iha =>
          intro a τ' ha g1 g2
          have hca : (nI a).toNatClampNeg = a := nI_clamp (by omega)
          refine oT_N 3 rfl (oT_le n a rfl rfl (by omega) (by omega) (fun q => by omega) (fun _ => ?_))
          refine oT_N 2 rfl (oT_I (o := d) (n := nI a) rfl (Or.inl ⟨hd.1, hd.2.1⟩) (ox_ixL hd.2.1 hd.2.2 (by omega) (by decide)) ?_)
          rw [hca]
          have hac : oBr τ' d a c = true ↔ oBr τ d a c = true := by
            rw [g2 a c (by omega) (by omega)]
            exact ⟨fun q => q.elim id (fun q => absurd q.1 (by omega)), Or.inl⟩
          have hcy : ∀ y, y < n → (oBr τ' d c y = true ↔ oBr τ d c y = true) := fun y hy => by
            rw [g2 c y (by omega) hy]
            exact ⟨fun q => q.elim id (fun q => q.2.2), Or.inl⟩
          refine oT_N 5 rfl (oT_bit c (by omega) (fun q => ?_) (fun q => ?_))
          · have e := iha (a + 1) τ' (by omega) g1 (fun x y hx hy => by
              rw [g2 x y hx hy]
              refine ⟨fun q => q.imp id (fun q => ⟨by omega, q.2⟩), fun q2 => q2.imp id (fun q2 => ⟨?_, q2.2⟩)⟩
              rcases Nat.lt_or_ge x a with q3 | q3
              · exact q3
              · obtain rfl : x = a := by omega
                have := hac.mpr q2.2.1
                rw [show oBr τ' d x c = false from q] at this
                cases this)
            rw [← ox_inc a] at e
            exact oT_N 2 rfl e
          · refine oT_N 3 rfl (oT_I (o := d) (n := nI a) rfl (Or.inl ⟨hd.1, hd.2.1⟩) (ox_ixL hd.2.1 hd.2.2 (by omega) (by decide)) ?_)
            rw [hca]
            refine oT_N 2 rfl (oT_I (o := d) (n := nI c) rfl (Or.inl ⟨hd.1, hd.2.1⟩) (ox_ixL hd.2.1 hd.2.2 (by omega) (by decide)) ?_)
            rw [hcc]
            refine oT_N 1 rfl (oT_Is (o := d) (n := nI a) (x := τ' d a ||| τ' d c) rfl ⟨hd.1, hd.2.1⟩ (ox_ixL hd.2.1 hd.2.2 (by omega) (by decide)) ?_)
            rw [hca]
            have e := iha (a + 1) (ox_up τ' d a (τ' d a ||| τ' d c)) (by omega) (fun o ho => by rw [ox_up_ne ho]; exact g1 o ho) (fun x y hx hy => by
              show oBit (ox_up τ' d a (τ' d a ||| τ' d c) d x) y = true ↔ _
              rw [ox_up_at]
              by_cases q2 : x = a
              · subst q2
                rw [if_pos rfl, oBit_or, Bool.or_eq_true]
                constructor
                · rintro (q3 | q3)
                  · rcases (g2 x y hx hy).mp q3 with q4 | q4
                    · exact Or.inl q4
                    · exact absurd q4.1 (by omega)
                  · exact Or.inr ⟨by omega, hac.mp q, (hcy y hy).mp q3⟩
                · rintro (q3 | q3)
                  · exact Or.inl ((g2 x y hx hy).mpr (Or.inl q3))
                  · exact Or.inr ((hcy y hy).mpr q3.2.2)
              · rw [if_neg q2]
                refine (g2 x y hx hy).trans ⟨fun q => q.imp id (fun q => ⟨by omega, q.2⟩), fun q3 => q3.imp id (fun q3 => ⟨by omega, q3.2⟩)⟩)
            rw [← ox_inc a] at e
            exact oT_N 2 rfl e
      exact oT_N 2 rfl (inner n 0 τ (by omega) h1 (fun x y _ _ => ⟨Or.inl, fun q => q.elim id (fun q => absurd q.1 (by omega))⟩))
  -- the copy
  have copy : ∀ (e a : Nat) (τ : ox_S), a + e = n → (∀ o, o ≠ d → τ o = σ o) → (∀ x, x < a → τ d x = σ s x) → oT L k 96 2 [some (.ref d), some (.ref s), some (.int (nI n)), some (.int (nI a)), none] [] τ (fun o σ' => o = .inl none ∧ (∀ o, o ≠ d → σ' o = σ o) ∧ ∀ a b, a < n → b < n → (oBr σ' d a b = true ↔ oTc n (oBr σ s) a b)) := by
    intro e
    induction e with
    | zero =>
      intro a τ ha h1 h2
      refine oT_N 3 rfl (oT_le n a rfl rfl (by omega) (by omega) (fun _ => ?_) (fun q => by omega))
      have hb : ∀ x y, x < n → oBr τ d x y = oBr σ s x y := fun x y hx => by
        unfold oBr
        rw [h2 x (by omega)]
      exact oT_N 2 rfl (outer n 0 τ none (by omega) h1 (fun x y z _ _ q => by omega) (fun x y hx hy q => by rw [hb x y hx]; exact q) (fun x y hx hy q => oTc_of hx hy (by rw [← hb x y hx]; exact q)))
    | succ e ih =>
      intro a τ ha h1 h2
      have hca : (nI a).toNatClampNeg = a := nI_clamp (by omega)
      refine oT_N 3 rfl (oT_le n a rfl rfl (by omega) (by omega) (fun q => by omega) (fun _ => ?_))
      refine oT_N 4 rfl (oT_I (o := s) (n := nI a) rfl (Or.inl ⟨hs.1, hs.2.1⟩) (ox_ixL hs.2.1 hs.2.2 (by omega) (by decide)) ?_)
      rw [hca, h1 s hds]
      refine oT_Is (o := d) (n := nI a) (x := σ s a) rfl ⟨hd.1, hd.2.1⟩ (ox_ixL hd.2.1 hd.2.2 (by omega) (by decide)) ?_
      rw [hca]
      have e := ih (a + 1) (ox_up τ d a (σ s a)) (by omega) (fun o ho => by rw [ox_up_ne ho]; exact h1 o ho) (fun x hx => by
        rw [ox_up_at]
        by_cases q : x = a
        · rw [if_pos q, q]
        · rw [if_neg q]; exact h2 x (by omega))
      rw [← ox_inc a] at e
      exact oT_N 2 rfl e
  exact copy n 0 σ (by omega) (fun _ _ => rfl) (fun x hx => by omega)
/-- the member of a mask with so many lower ones -/
theorem ot_memberAt {m : Int32} {j : Nat} (hj : j < oCn (oBit m) 12) : oT L k 99 0 [some (.int m), some (.int (nI j)), none, none] [] σ (fun o σ' => o = .inl (some (.int (nI (oKt (oBit m) 12 j)))) ∧ σ' = σ) := by
  refine oT_N 4 rfl ?_
  have hj12 := oCn_le (oBit m) 12
  obtain ⟨w1, w2, w3⟩ := oKt_sp 12 hj
  have loop : ∀ (e a : Nat), a + e = oKt (oBit m) 12 j → oT L k 99 4 [some (.int m), some (.int (nI j)), some (.int (nI (oCn (oBit m) a))), some (.int (nI a))] [] σ (fun o σ' => o = .inl (some (.int (nI (oKt (oBit m) 12 j)))) ∧ σ' = σ) := by
    intro e
    induction e with
    | zero =>
      intro a ha
      obtain rfl : a = oKt (oBit m) 12 j := by omega
      refine oT_N 3 rfl (oT_le 12 (oKt (oBit m) 12 j) rfl rfl (by decide) (by omega) (fun q => by omega) (fun _ => ?_))
      refine oT_N 6 rfl (oT_bit (oKt (oBit m) 12 j) (by omega) (fun q => ?_) (fun _ => ?_))
      · rw [q] at w2
        cases w2
      · refine oT_N 3 rfl (oT_eq (oCn (oBit m) (oKt (oBit m) 12 j)) j rfl rfl (by omega) (by omega) (fun _ => ?_) (fun q => absurd w3 q))
        exact oT_N 1 rfl (oT_Ret rfl rfl rfl ⟨rfl, rfl⟩)
    | succ e ih =>
      intro a ha
      have e9 := ih (a + 1) (by omega)
      have hle := oCn_mono (f := oBit m) (show a + 1 ≤ oKt (oBit m) 12 j by omega)
      refine oT_N 3 rfl (oT_le 12 a rfl rfl (by decide) (by omega) (fun q => by omega) (fun _ => ?_))
      refine oT_N 6 rfl (oT_bit a (by omega) (fun q => ?_) (fun q => ?_))
      · rw [show oCn (oBit m) (a + 1) = oCn (oBit m) a by simp [oCn, q], ← ox_inc a] at e9
        exact oT_N 2 rfl e9
      · have e2 : oCn (oBit m) (a + 1) = oCn (oBit m) a + 1 := by simp [oCn, q]
        refine oT_N 3 rfl (oT_eq (oCn (oBit m) a) j rfl rfl (by omega) (by omega) (fun q => by omega) (fun _ => ?_))
        rw [e2, ← ox_inc a, ← ox_inc (oCn (oBit m) a)] at e9
        exact oT_N 3 rfl e9
  exact loop (oKt (oBit m) 12 j) 0 (by omega)
/-- what leads into a mask -/
theorem ot_leadingInto {m : Int32} (hs : oRw s) (hn : n ≤ 12) : oT L k 98 0 [some (.ref s), some (.int m), some (.int (nI n)), none, none] [] σ (fun o σ' => σ' = σ ∧ ∃ v, o = .inl (some (.int v)) ∧ ∀ a, oBit v a = true ↔ a < n ∧ ∃ b, b < 32 ∧ oBr σ s a b = true ∧ oBit m b = true) := by
  refine oT_N 4 rfl ?_
  have loop : ∀ (e a : Nat) (v : Int32), a + e = n → (∀ x, oBit v x = true ↔ x < a ∧ ∃ b, b < 32 ∧ oBr σ s x b = true ∧ oBit m b = true) → oT L k 98 5 [some (.ref s), some (.int m), some (.int (nI n)), some (.int v), some (.int (nI a))] [] σ (fun o σ' => σ' = σ ∧ ∃ v, o = .inl (some (.int v)) ∧ ∀ a, oBit v a = true ↔ a < n ∧ ∃ b, b < 32 ∧ oBr σ s a b = true ∧ oBit m b = true) := by
    intro e
    induction e with
    | zero =>
      intro a v ha hv
      obtain rfl : a = n := by omega
      refine oT_N 3 rfl (oT_le a a rfl rfl (by omega) (by omega) (fun _ => ?_) (fun q => by omega))
      exact oT_N 1 rfl (oT_Ret rfl rfl rfl ⟨rfl, v, rfl, hv⟩)
    | succ e ih =>
      intro a v ha hv
      refine oT_N 3 rfl (oT_le n a rfl rfl (by omega) (by omega) (fun q => by omega) (fun _ => ?_))
      refine oT_N 2 rfl (oT_I (o := s) (n := nI a) rfl (Or.inl ⟨hs.1, hs.2.1⟩) (ox_ixL hs.2.1 hs.2.2 (by omega) (by decide)) ?_)
      rw [nI_clamp (by omega)]
      refine oT_N 3 rfl (oT_If (fun (q : σ s a &&& m = 0) => ?_) (fun (q : ¬ σ s a &&& m = 0) => ?_))
      · rw [oBit_and0] at q
        have e := ih (a + 1) v (by omega) (fun x => by
          rw [hv x]
          refine ⟨fun q2 => ⟨by omega, q2.2⟩, fun q2 => ⟨?_, q2.2⟩⟩
          rcases Nat.lt_or_ge x a with q3 | q3
          · exact q3
          · obtain rfl : x = a := by omega
            obtain ⟨b, b1, b2⟩ := q2.2
            exact absurd b2 (q b b1))
        rw [← ox_inc a] at e
        exact oT_N 2 rfl e
      · have hex : ∃ b, b < 32 ∧ oBr σ s a b = true ∧ oBit m b = true := Classical.byContradiction (fun q2 => q (oBit_and0.mpr (fun b hb q3 => q2 ⟨b, hb, q3⟩)))
        have e := ih (a + 1) (v ||| o1 a) (by omega) (fun x => by
          rw [oBit_or, oBit_1 (by omega), Bool.or_eq_true, hv x, decide_eq_true_eq]
          constructor
          · rintro (q2 | rfl)
            · exact ⟨by omega, q2.2⟩
            · exact ⟨by omega, hex⟩
          · rintro ⟨q2, q3⟩
            rcases Nat.lt_or_ge x a with q4 | q4
            · exact Or.inl ⟨q4, q3⟩
            · exact Or.inr (by omega))
        rw [← ox_inc a] at e
        exact oT_N 8 rfl e
  exact loop n 0 0 (by omega) (fun x => ⟨fun q => (by rw [oBit_0] at q; cases q), fun q => by omega⟩)
end OXX
