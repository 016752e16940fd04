theorem ot_write {L k p j : Nat} {σ : ox_S} {P : oPr} (h : oM σ P) (hp : p < 4) (hj : j < oW P p) : oT L k 66 0 [some (.ref 7), some (.int (nI p)), some (.int (nI j)), none, none] [] σ (fun o σ' => o = .inl (some (.int (nI (oWr P p j)))) ∧ σ' = σ) := by
  obtain ⟨⟨hT, hn, hok⟩, h1, h2, h3⟩ := h
  have hw : oW P p ≤ 12 := Nat.le_trans (ocW_le P p P.n) hn
  refine oT_N 4 rfl ?_
  have loop : ∀ d e, e + d = P.n → ocW P p e ≤ j → oT L k 66 5 [some (.ref 7), some (.int (nI p)), some (.int (nI j)), some (.int (nI (j - ocW P p e))), some (.int (nI e))] [] σ (fun o σ' => o = .inl (some (.int (nI (oWr P p j)))) ∧ σ' = σ) := by
    intro d
    induction d with
    | zero =>
      intro e he hc
      obtain rfl : e = P.n := by omega
      exact absurd hj (by unfold oW; omega)
    | succ d ih =>
      intro e he hc
      obtain ⟨g1, g2, g3, -⟩ := h3 e (by omega)
      obtain ⟨o1, o2, o3⟩ := hok e (by omega)
      refine oT_N 4 rfl (oT_le P.n e h2 rfl (by omega) (by omega) (fun q => by omega) (fun _ => ?_))
      refine oT_N 3 rfl (oT_I (o := 44) (n := nI e) rfl (Or.inl ⟨rfl, by decide⟩) (ox_ix (N := 12) (by omega) (by decide)) ?_)
      rw [nI_clamp (show e < 2 ^ 31 by omega), g2]
      have hno : ¬ (P.kd e = 1 ∧ P.pl e = p) → oT L k 66 5 [some (.ref 7), some (.int (nI p)), some (.int (nI j)), some (.int (nI (j - ocW P p e))), some (.int (nI e + Int32.ofInt 1))] [] σ (fun o σ' => o = .inl (some (.int (nI (oWr P p j)))) ∧ σ' = σ) := fun q => by
        have q1 : ocW P p (e + 1) = ocW P p e := by simp only [ocW]; rw [if_neg q]; rfl
        have e9 := ih (e + 1) (by omega) (by omega)
        rw [q1, ← ox_inc e] at e9
        exact e9
      refine oT_N 2 rfl (oT_eq (P.kd e) 1 rfl rfl (by omega) (by decide) (fun hk => ?_) (fun hk => ?_))
      · refine oT_N 3 rfl (oT_I (o := 45) (n := nI e) rfl (Or.inl ⟨rfl, by decide⟩) (ox_ix (N := 12) (by omega) (by decide)) ?_)
        have hpl := o3 (by omega)
        rw [nI_clamp (show e < 2 ^ 31 by omega), g3, if_pos (by omega)]
        refine oT_N 2 rfl (oT_eq (P.pl e) p rfl rfl (by omega) (by omega) (fun hq => ?_) (fun hq => ?_))
        · refine oT_N 2 rfl (oT_eq (j - ocW P p e) 0 rfl rfl (by omega) (by decide) (fun h0 => ?_) (fun h0 => ?_))
          · refine oT_N 1 rfl (oT_Ret rfl rfl rfl ⟨?_, rfl⟩)
            rw [show j = ocW P p e by omega, (oWr_of (by omega) hk hq).1]
          · have q1 : ocW P p (e + 1) = ocW P p e + 1 := by simp only [ocW]; rw [if_pos ⟨hk, hq⟩]
            have e9 := ih (e + 1) (by omega) (by omega)
            rw [← ox_dec (j - ocW P p (e + 1)), show j - ocW P p (e + 1) + 1 = j - ocW P p e by omega, ← ox_inc e] at e9
            exact oT_N 3 rfl e9
        · exact oT_N 3 rfl (hno (fun q => hq q.2))
      · exact oT_N 2 rfl (hno (fun q => hk q.1))
  exact loop P.n 0 (by omega) (Nat.zero_le _)
/-- what 'arrange' does of place p -/
def oAr (P : oPr) (x p : Nat) (σ σ' : ox_S) (i : Nat) : Prop :=
  (∀ o, o ≠ 53 → o ≠ 54 → o ≠ 55 → σ' o = σ o) ∧ (∀ q, q ≠ p → σ' 54 q = σ 54 q) ∧ σ' 54 p = nI (oW P p) ∧ (∀ j, j < i → σ' 53 (12 * p + j) = nI (oOd P x p j)) ∧ (∀ q, q < 12 * p ∨ 12 * p + 12 ≤ q → σ' 53 q = σ 53 q) ∧
  (∀ j, j < i → σ' 55 (oOd P x p j) = nI j) ∧ (∀ e, e < P.n → oSt P x p i e = true → σ' 55 e = -1) ∧ ∀ e, ¬ (P.kd e = 1 ∧ P.pl e = p) → σ' 55 e = σ 55 e
theorem oFc_up (w : Nat) (h : 0 < w) : oFc w = w * oFc (w - 1) := by
  obtain ⟨v, rfl⟩ : ∃ v, w = v + 1 := ⟨w - 1, by omega⟩
  rfl
theorem oFc_le {v w : Nat} (h : v ≤ w) : oFc v ≤ oFc w := by
  induction w with
  | zero => obtain rfl : v = 0 := by omega
            exact Nat.le_refl _
  | succ w ih =>
    rcases Nat.lt_or_ge w v with q | q
    · obtain rfl : v = w + 1 := by omega
      exact Nat.le_refl _
    · exact Nat.le_trans (ih q) (Nat.le_mul_of_pos_left _ (Nat.succ_pos w))
set_option maxHeartbeats 1000000 in
theorem ot_arrange {L k p x : Nat} {σ : ox_S} {P : oPr} (h : oM σ P) (hp : p < 4) (hF : oFc (oW P p) ≤ 5000) (hk : 2 ≤ k) (hk9 : k ≤ 9) : oT L k 67 0 [some (.ref 7), some (.int (nI p)), some (.int (nI (oRs P x (3 - p) % oFc (oW P p)))), none, none, none, none, none, none] [] σ (fun o σ' => o = .inl none ∧ oAr P x p σ σ' (oW P p)) := by
  obtain ⟨k, rfl⟩ : ∃ k', k = k' + 1 := ⟨k - 1, by omega⟩
  obtain ⟨⟨hT, hn, hok⟩, h1, h2, h3⟩ := id h
  have hw : oW P p ≤ 12 := Nat.le_trans (ocW_le P p P.n) hn
  refine oT_N 2 rfl (oT_V rfl rfl rfl rfl (by omega) (by omega) (ot_writes h (by omega)) (fun x σ2 h => by cases h.1) (fun v σ2 hv => ?_))
  obtain ⟨hv, rfl⟩ := hv
  cases hv
  refine oT_N 5 rfl (oT_Is (o := 54) (n := nI p) (x := nI (oW P p)) rfl ⟨rfl, by decide⟩ (ox_ix (N := 4) hp (by decide)) ?_)
  rw [nI_clamp (by omega)]
  refine oT_N 4 rfl ?_
  -- the picks
  have picks : ∀ (d i : Nat) (τ : ox_S) (l7 l8 : Option Value), i + d = oW P p → oAr P x p σ2 τ i → oT L (k + 1) 67 92 [some (.ref 7), some (.int (nI p)), some (.int (nI (oRs P x (3 - p) % oFc (oW P p)))), some (.int (nI (oW P p))), some (.int (nI (oFc (oW P p - i)))), some (.int (nI (oRs P x (3 - p) % oFc (oW P p - i)))), some (.int (nI i)), l7, l8] [] τ (fun o σ' => o = .inl none ∧ oAr P x p σ2 σ' (oW P p)) := by
    intro d
    induction d with
    | zero =>
      intro i τ l7 l8 hi hA
      obtain rfl : i = oW P p := by omega
      refine oT_N 3 rfl (oT_le (oW P p) (oW P p) rfl rfl (by omega) (by omega) (fun _ => ?_) (fun q => by omega))
      exact oT_Retv rfl rfl ⟨rfl, hA⟩
    | succ d ih =>
      intro i τ l7 l8 hi hA
      obtain ⟨a1, a2, a3, a4, a5, a6, a7, a8⟩ := id hA
      have hF1 : oFc (oW P p - i) ≤ 5000 := Nat.le_trans (oFc_le (by omega)) hF
      have hF2 : oFc (oW P p - i - 1) ≤ 5000 := Nat.le_trans (oFc_le (by omega)) hF
      have hp1 := oFc_pos (oW P p - i)
      have hp2 := oFc_pos (oW P p - i - 1)
      have hup := oFc_up (oW P p - i) (by omega)
      have hlt : oRs P x (3 - p) % oFc (oW P p - i) < oFc (oW P p - i) := Nat.mod_lt _ hp1
      have hdv : oFc (oW P p - i) / (oW P p - i) = oFc (oW P p - i - 1) := by rw [hup]; exact Nat.mul_div_cancel_left _ (by omega)
      have hdg : oRs P x (3 - p) % oFc (oW P p - i) / oFc (oW P p - i - 1) = oDg P x p i := by
        rw [hup, Nat.mul_comm, Nat.mod_mul_right_div_self]
        unfold oDg
        rw [show oW P p - 1 - i = oW P p - i - 1 by omega]
      have hmd : oRs P x (3 - p) % oFc (oW P p - i) % oFc (oW P p - i - 1) = oRs P x (3 - p) % oFc (oW P p - i - 1) := Nat.mod_mod_of_dvd _ (by rw [hup]; exact Nat.dvd_mul_left _ _)
      have hdl := oDg_lt (P := P) (x := x) (p := p) (i := i) (by omega)
      have hcn := oSt_cn (P := P) (x := x) (p := p) i (by omega)
      have τ7 : τ 7 = σ2 7 := a1 7 (by decide) (by decide) (by decide)
      have τ44 : τ 44 = σ2 44 := a1 44 (by decide) (by decide) (by decide)
      have τ45 : τ 45 = σ2 45 := a1 45 (by decide) (by decide) (by decide)
      refine oT_N 3 rfl (oT_le (oW P p) i rfl rfl (by omega) (by omega) (fun q => by omega) (fun _ => ?_))
      have e1 : nI (oW P p) - nI i = nI (oW P p - i) := pk_sub (by omega)
      refine oT_N 4 rfl (oT_Div (x := nI (oFc (oW P p - i))) (y := nI (oW P p) - nI i) rfl (by rw [e1]; exact nI_ne0 (by omega) (by omega)) ?_)
      rw [e1, pk_div (by omega) (by omega) (by omega), hdv]
      refine oT_N 3 rfl (oT_Div (x := nI (oRs P x (3 - p) % oFc (oW P p - i))) (y := nI (oFc (oW P p - i - 1))) rfl (nI_ne0 hp2 (by omega)) ?_)
      rw [pk_div (by omega) hp2 (by omega), hdg]
      refine oT_N 3 rfl (oT_Rem (x := nI (oRs P x (3 - p) % oFc (oW P p - i))) (y := nI (oFc (oW P p - i - 1))) rfl (nI_ne0 hp2 (by omega)) ?_)
      rw [pk_rem (by omega) hp2 (by omega), hmd]
      refine oT_N 3 rfl ?_
      have find : ∀ (d e : Nat), e + d = P.n → oCn (oSt P x p i) e ≤ oDg P x p i → oT L (k + 1) 67 124 [some (.ref 7), some (.int (nI p)), some (.int (nI (oRs P x (3 - p) % oFc (oW P p)))), some (.int (nI (oW P p))), some (.int (nI (oFc (oW P p - i - 1)))), some (.int (nI (oRs P x (3 - p) % oFc (oW P p - i - 1)))), some (.int (nI i)), some (.int (nI (oDg P x p i - oCn (oSt P x p i) e))), some (.int (nI e))] [] τ (fun o σ' => o = .inl none ∧ oAr P x p σ2 σ' (oW P p)) := by
        intro d
        induction d with
        | zero =>
          intro e he hc
          obtain rfl : e = P.n := by omega
          omega
        | succ d ihe =>
          intro e he hc
          obtain ⟨g1, g2, g3, -⟩ := h3 e (by omega)
          obtain ⟨o1, o2, o3⟩ := hok e (by omega)
          have hec : (nI e).toNatClampNeg = e := nI_clamp (by omega)
          have n12 : ¬ (nI e < 0 ∨ 12 ≤ (nI e).toNatClampNeg) := ox_ix (by omega) (by decide)
          have hnot : oSt P x p i e = false → oT L (k + 1) 67 124 [some (.ref 7), some (.int (nI p)), some (.int (nI (oRs P x (3 - p) % oFc (oW P p)))), some (.int (nI (oW P p))), some (.int (nI (oFc (oW P p - i - 1)))), some (.int (nI (oRs P x (3 - p) % oFc (oW P p - i - 1)))), some (.int (nI i)), some (.int (nI (oDg P x p i - oCn (oSt P x p i) e) - Int32.ofInt 0)), some (.int (nI e + Int32.ofInt 1))] [] τ (fun o σ' => o = .inl none ∧ oAr P x p σ2 σ' (oW P p)) := fun hs => by
            have q1 : oCn (oSt P x p i) (e + 1) = oCn (oSt P x p i) e := by simp [oCn, hs]
            have e9 := ihe (e + 1) (by omega) (by omega)
            rw [q1, ← ox_inc e] at e9
            rw [show nI (oDg P x p i - oCn (oSt P x p i) e) - Int32.ofInt 0 = nI (oDg P x p i - oCn (oSt P x p i) e) from Int32.sub_zero _]
            exact e9
          -- the mending of k behind a miss
          have h161 : (oSt P x p i e = true → oCn (oSt P x p i) e < oDg P x p i) → oT L (k + 1) 67 161 [some (.ref 7), some (.int (nI p)), some (.int (nI (oRs P x (3 - p) % oFc (oW P p)))), some (.int (nI (oW P p))), some (.int (nI (oFc (oW P p - i - 1)))), some (.int (nI (oRs P x (3 - p) % oFc (oW P p - i - 1)))), some (.int (nI i)), some (.int (nI (oDg P x p i - oCn (oSt P x p i) e))), some (.int (nI e))] [] τ (fun o σ' => o = .inl none ∧ oAr P x p σ2 σ' (oW P p)) := fun hlt => by
            refine oT_N 4 rfl (oT_I (o := 44) (n := nI e) rfl (Or.inl ⟨rfl, by decide⟩) n12 ?_)
            rw [hec, τ44, g2]
            refine oT_N 2 rfl (oT_eq (P.kd e) 1 rfl rfl (by omega) (by decide) (fun hk => ?_) (fun hk => ?_))
            · refine oT_N 3 rfl (oT_I (o := 45) (n := nI e) rfl (Or.inl ⟨rfl, by decide⟩) n12 ?_)
              have hpl := o3 (by omega)
              rw [hec, τ45, g3, if_pos (by omega)]
              refine oT_N 2 rfl (oT_eq (P.pl e) p rfl rfl (by omega) (by omega) (fun hq => ?_) (fun hq => ?_))
              · refine oT_N 3 rfl (oT_I (o := 55) (n := nI e) rfl (Or.inl ⟨rfl, by decide⟩) n12 ?_)
                rw [hec]
                cases hs : oSt P x p i e with
                | true =>
                  rw [a7 e (by omega) hs]
                  refine oT_N 1 rfl (oT_If (fun q => absurd q (by decide)) (fun _ => ?_))
                  have q1 : oCn (oSt P x p i) (e + 1) = oCn (oSt P x p i) e + 1 := by simp [oCn, hs]
                  have hl := hlt hs
                  have e9 := ihe (e + 1) (by omega) (by omega)
                  rw [← ox_sb1 (oDg P x p i - oCn (oSt P x p i) (e + 1)), show oDg P x p i - oCn (oSt P x p i) (e + 1) + 1 = oDg P x p i - oCn (oSt P x p i) e by omega, ← ox_inc e] at e9
                  exact oT_N 6 rfl e9
                | false =>
                  obtain ⟨j, hj, hj2⟩ : ∃ j, j < i ∧ e = oOd P x p j := by
                    by_cases hex : ∃ j, j < i ∧ e = oOd P x p j
                    · exact hex
                    · have := (oSt_mem (P := P) (x := x) (p := p) (e := e) i).mpr ⟨⟨hk, hq⟩, fun j hj e2 => hex ⟨j, hj, e2⟩⟩
                      rw [hs] at this
                      cases this
                  have hr : τ 55 e = nI j := by rw [hj2]; exact a6 j hj
                  rw [hr]
                  exact oT_N 1 rfl (oT_le 0 j rfl rfl (by decide) (by omega) (fun _ => oT_N 5 rfl (hnot hs)) (fun q => by omega))
              · refine oT_N 5 rfl (hnot ?_)
                cases hs : oSt P x p i e with
                | false => rfl
                | true => exact absurd (oSt_sub i hs).2 hq
            · refine oT_N 5 rfl (hnot ?_)
              cases hs : oSt P x p i e with
              | false => rfl
              | true => exact absurd (oSt_sub i hs).1 hk
          refine oT_N 3 rfl (oT_I (o := 44) (n := nI e) rfl (Or.inl ⟨rfl, by decide⟩) n12 ?_)
          rw [hec, τ44, g2]
          refine oT_N 2 rfl (oT_eq (P.kd e) 1 rfl rfl (by omega) (by decide) (fun hk => ?_) (fun hk => ?_))
          · refine oT_N 3 rfl (oT_I (o := 45) (n := nI e) rfl (Or.inl ⟨rfl, by decide⟩) n12 ?_)
            have hpl := o3 (by omega)
            rw [hec, τ45, g3, if_pos (by omega)]
            refine oT_N 2 rfl (oT_eq (P.pl e) p rfl rfl (by omega) (by omega) (fun hq => ?_) (fun hq => ?_))
            · refine oT_N 3 rfl (oT_I (o := 55) (n := nI e) rfl (Or.inl ⟨rfl, by decide⟩) n12 ?_)
              rw [hec]
              cases hs : oSt P x p i e with
              | true =>
                rw [a7 e (by omega) hs]
                refine oT_N 1 rfl (oT_If (fun q => absurd q (by decide)) (fun _ => ?_))
                refine oT_N 2 rfl (oT_le (oDg P x p i - oCn (oSt P x p i) e) 0 rfl rfl (by omega) (by decide) (fun q => ?_) (fun q => h161 (fun _ => by omega)))
                have hod : oOd P x p i = e := by
                  unfold oOd
                  rw [show oDg P x p i = oCn (oSt P x p i) e by omega]
                  exact oKt_of (by omega) hs
                refine oT_N 4 rfl (oT_Is (o := 55) (n := nI e) (x := nI i) rfl ⟨rfl, by decide⟩ n12 ?_)
                rw [hec]
                refine oT_N 8 rfl (oT_Is (o := 53) (n := (Int8.ofInt 12).toInt32 * nI p + nI i) (x := nI e) rfl ⟨rfl, by decide⟩ (by rw [ox_i2]; exact ox_ix (N := 48) (by omega) (by decide)) ?_)
                rw [ox_i2, nI_clamp (by omega)]
                have e9 := ih (i + 1) (ox_up (ox_up τ 55 e (nI i)) 53 (12 * p + i) (nI e)) (some (.int (nI (oDg P x p i - oCn (oSt P x p i) e)))) (some (.int (nI e))) (by omega) ⟨fun o q1 q2 q3 => by rw [ox_up_ne q1, ox_up_ne q3]; exact a1 o q1 q2 q3, fun q hq => by rw [ox_up_ne (by decide), ox_up_ne (by decide)]; exact a2 q hq, by rw [ox_up_ne (by decide), ox_up_ne (by decide)]; exact a3, fun j hj => by
                    rw [ox_up_at]
                    by_cases e2 : j = i
                    · rw [if_pos (by omega), e2, hod]
                    · rw [if_neg (by omega), ox_up_ne (by decide)]; exact a4 j (by omega), fun q hq => by
                    rw [ox_up_at, if_neg (by omega), ox_up_ne (by decide)]; exact a5 q hq, fun j hj => by
                    rw [ox_up_ne (by decide), ox_up_at]
                    by_cases e2 : j = i
                    · rw [e2, if_pos hod]
                    · rw [if_neg (fun e3 => ((oSt_mem i).mp hs).2 j (by omega) e3.symm)]; exact a6 j (by omega), fun e' he' hs' => by
                    rw [ox_up_ne (by decide), ox_up_at]
                    have hm := (oSt_mem (i + 1)).mp hs'
                    rw [if_neg (fun e3 => hm.2 i (by omega) (by rw [hod]; exact e3))]
                    exact a7 e' he' ((oSt_mem i).mpr ⟨hm.1, fun j hj => hm.2 j (by omega)⟩), fun e' hne => by
                    rw [ox_up_ne (by decide), ox_up_at, if_neg (fun e3 => hne (by rw [e3]; exact ⟨hk, hq⟩))]
                    exact a8 e' hne⟩
                rw [← ox_inc i, show oW P p - (i + 1) = oW P p - i - 1 by omega] at e9
                exact oT_N 2 rfl e9
              | false =>
                obtain ⟨j, hj, hj2⟩ : ∃ j, j < i ∧ e = oOd P x p j := by
                  by_cases hex : ∃ j, j < i ∧ e = oOd P x p j
                  · exact hex
                  · have := (oSt_mem (P := P) (x := x) (p := p) (e := e) i).mpr ⟨⟨hk, hq⟩, fun j hj e2 => hex ⟨j, hj, e2⟩⟩
                    rw [hs] at this
                    cases this
                have hr : τ 55 e = nI j := by rw [hj2]; exact a6 j hj
                rw [hr]
                exact oT_N 1 rfl (oT_le 0 j rfl rfl (by decide) (by omega) (fun _ => h161 (fun q => by rw [hs] at q; cases q)) (fun q => by omega))
            · exact h161 (fun q => absurd (oSt_sub i q).2 hq)
          · exact h161 (fun q => absurd (oSt_sub i q).1 hk)
      exact find P.n 0 (by omega) (Nat.zero_le _)
  -- the ranks are taken away
  have ranks : ∀ (d e : Nat) (τ : ox_S) (l7 l8 : Option Value), e + d = P.n → (∀ o, o ≠ 54 → o ≠ 55 → τ o = σ2 o) → (∀ q, q ≠ p → τ 54 q = σ2 54 q) → τ 54 p = nI (oW P p) → (∀ e', e' < e → (P.kd e' = 1 ∧ P.pl e' = p) → τ 55 e' = -1) → (∀ e', ¬ (P.kd e' = 1 ∧ P.pl e' = p) → τ 55 e' = σ2 55 e') →
      oT L (k + 1) 67 44 [some (.ref 7), some (.int (nI p)), some (.int (nI (oRs P x (3 - p) % oFc (oW P p)))), some (.int (nI (oW P p))), some (.int (nI (oFc (oW P p)))), some (.int (nI (oRs P x (3 - p) % oFc (oW P p)))), some (.int (nI e)), l7, l8] [] τ (fun o σ' => o = .inl none ∧ oAr P x p σ2 σ' (oW P p)) := by
    intro d
    induction d with
    | zero =>
      intro e τ l7 l8 he b1 b2 b3 b4 b5
      obtain rfl : e = P.n := by omega
      refine oT_N 4 rfl (oT_le P.n P.n (by rw [b1 7 (by decide) (by decide)]; exact h2) rfl (by omega) (by omega) (fun _ => ?_) (fun q => by omega))
      exact oT_N 2 rfl (picks (oW P p) 0 τ l7 l8 (by omega) ⟨fun o q1 q2 q3 => b1 o q2 q3, b2, b3, fun j hj => absurd hj (by omega), fun q _ => by rw [b1 53 (by decide) (by decide)], fun j hj => absurd hj (by omega), fun e he hs => b4 e he (oSt_sub 0 hs), b5⟩)
    | succ d ih =>
      intro e τ l7 l8 he b1 b2 b3 b4 b5
      obtain ⟨g1, g2, g3, -⟩ := h3 e (by omega)
      obtain ⟨o1, o2, o3⟩ := hok e (by omega)
      have hec : (nI e).toNatClampNeg = e := nI_clamp (by omega)
      have n12 : ¬ (nI e < 0 ∨ 12 ≤ (nI e).toNatClampNeg) := ox_ix (by omega) (by decide)
      refine oT_N 4 rfl (oT_le P.n e (by rw [b1 7 (by decide) (by decide)]; exact h2) rfl (by omega) (by omega) (fun q => by omega) (fun _ => ?_))
      refine oT_N 3 rfl (oT_I (o := 44) (n := nI e) rfl (Or.inl ⟨rfl, by decide⟩) n12 ?_)
      rw [hec, b1 44 (by decide) (by decide), g2]
      have hno : ¬ (P.kd e = 1 ∧ P.pl e = p) → oT L (k + 1) 67 44 [some (.ref 7), some (.int (nI p)), some (.int (nI (oRs P x (3 - p) % oFc (oW P p)))), some (.int (nI (oW P p))), some (.int (nI (oFc (oW P p)))), some (.int (nI (oRs P x (3 - p) % oFc (oW P p)))), some (.int (nI e + Int32.ofInt 1)), l7, l8] [] τ (fun o σ' => o = .inl none ∧ oAr P x p σ2 σ' (oW P p)) := fun hq => by
        have e9 := ih (e + 1) τ l7 l8 (by omega) b1 b2 b3 (fun e' he' hq' => by
          rcases Nat.lt_or_ge e' e with q | q
          · exact b4 e' q hq'
          · obtain rfl : e' = e := by omega
            exact absurd hq' hq) b5
        rw [← ox_inc e] at e9
        exact e9
      refine oT_N 2 rfl (oT_eq (P.kd e) 1 rfl rfl (by omega) (by decide) (fun hk => ?_) (fun hk => ?_))
      · refine oT_N 3 rfl (oT_I (o := 45) (n := nI e) rfl (Or.inl ⟨rfl, by decide⟩) n12 ?_)
        have hpl := o3 (by omega)
        rw [hec, b1 45 (by decide) (by decide), g3, if_pos (by omega)]
        refine oT_N 2 rfl (oT_eq (P.pl e) p rfl rfl (by omega) (by omega) (fun hq => ?_) (fun hq => ?_))
        · refine oT_N 4 rfl (oT_Is (o := 55) (n := nI e) (x := -1) rfl ⟨rfl, by decide⟩ n12 ?_)
          rw [hec]
          have e9 := ih (e + 1) (ox_up τ 55 e (-1)) l7 l8 (by omega) (fun o q1 q2 => by rw [ox_up_ne q2]; exact b1 o q1 q2) (fun q hq => by rw [ox_up_ne (by decide)]; exact b2 q hq) (by rw [ox_up_ne (by decide)]; exact b3) (fun e' he' hq' => by
            rw [ox_up_at]
            by_cases e2 : e' = e
            · rw [if_pos e2]
            · rw [if_neg e2]; exact b4 e' (by omega) hq') (fun e' hq' => by
            rw [ox_up_at, if_neg (fun e2 => hq' (by rw [e2]; exact ⟨hk, hq⟩))]
            exact b5 e' hq')
          rw [← ox_inc e] at e9
          exact oT_N 2 rfl e9
        · exact oT_N 2 rfl (hno (fun q => hq q.2))
      · exact oT_N 2 rfl (hno (fun q => hk q.1))
  -- the number of rows
  have size : ∀ (d j : Nat) (τ : ox_S), (j + d = oW P p ∨ (d = 0 ∧ oW P p ≤ j)) → 1 ≤ j → oFc j ≤ 5000 → (d = 0 → oFc j = oFc (oW P p)) → τ = ox_up σ2 54 p (nI (oW P p)) → oT L (k + 1) 67 19 [some (.ref 7), some (.int (nI p)), some (.int (nI (oRs P x (3 - p) % oFc (oW P p)))), some (.int (nI (oW P p))), some (.int (nI (oFc j))), some (.int (nI (j + 1))), none, none, none] [] τ (fun o σ' => o = .inl none ∧ oAr P x p σ2 σ' (oW P p)) := by
    intro d
    induction d with
    | zero =>
      intro j τ hj h1 hF' hq ht
      subst ht
      refine oT_N 3 rfl (oT_If (fun _ => ?_) (fun (q : ¬ nI (oW P p) < nI (j + 1)) => ?_))
      · rw [hq rfl]
        exact oT_N 4 rfl (ranks P.n 0 _ none none (by omega) (fun o q1 _ => ox_up_ne q1) (fun q hq => by rw [ox_up_at, if_neg hq]) (by rw [ox_up_at, if_pos rfl]) (fun e' he' => absurd he' (by omega)) (fun e' _ => by rw [ox_up_ne (by decide)]))
      · have hj5 : j < 5001 := by
          have : j ≤ oFc j := by rw [oFc_up j (by omega)]; exact Nat.le_mul_of_pos_right _ (oFc_pos _)
          omega
        exact absurd (nI_lt (by omega) (by omega)) q
    | succ d ih =>
      intro j τ hj h1 hF' hq ht
      refine oT_N 3 rfl (oT_lt (oW P p) (j + 1) rfl rfl (by omega) (by omega) (fun q => by omega) (fun _ => ?_))
      have hF2 : oFc (j + 1) ≤ 5000 := Nat.le_trans (oFc_le (by omega)) hF
      have e9 := ih (j + 1) τ (by omega) (by omega) hF2 (fun q => by congr 1; omega) ht
      rw [← ox_inc (j + 1), show oFc (j + 1) = oFc j * (j + 1) from Nat.mul_comm _ _, ← pk_mul] at e9
      exact oT_N 6 rfl e9
  rcases Nat.lt_or_ge 1 (oW P p) with q | q
  · exact size (oW P p - 1) 1 _ (Or.inl (by omega)) (by omega) (by decide) (fun _ => by omega) rfl
  · refine size 0 1 _ (Or.inr ⟨rfl, q⟩) (by omega) (by decide) (fun _ => ?_) rfl
    generalize oW P p = w at q
    rcases Nat.lt_or_ge w 1 with q2 | q2
    · obtain rfl : w = 0 := by omega
      rfl
    · obtain rfl : w = 1 := by omega
      rfl
