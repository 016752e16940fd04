section OYGt
variable {L k n : Nat} {σ : ox_S} {P : oPr} {M : oMo}
theorem ot_firstBrokent (hm : oCo σ M) (h0 : σ 4 0 = nI n) (hn : n ≤ 12) (hk : 2 ≤ k) (hk9 : k ≤ 9) : oT L k 2 0 [some (.ref 4), some (.ref 2), none] [] σ (fun o σ' => σ' = σ ∧ ∃ b, o = .inl (some (.int b)) ∧ oBk n M (oVw σ 77) b) := by
  obtain ⟨k, rfl⟩ : ∃ k', k = k' + 1 := ⟨k - 1, by omega⟩
  obtain ⟨⟨m1, m2, m3, m4, m5⟩, g1, g2, g3, g4⟩ := id hm
  refine oT_N 2 rfl ?_
  have loop : ∀ (d i : Nat), i + d = M.Q → (∀ j, j < i → ¬ oRg n (oVw σ 77 (M.rl j))) → oT L (k + 1) 2 2 [some (.ref 4), some (.ref 2), some (.int (nI i))] [] σ (fun o σ' => σ' = σ ∧ ∃ b, o = .inl (some (.int b)) ∧ oBk n M (oVw σ 77) b) := by
    intro d
    induction d with
    | zero =>
      intro i hi hno
      obtain rfl : i = M.Q := by omega
      refine oT_N 4 rfl (oT_le M.Q M.Q g2 rfl (by omega) (by omega) (fun _ => ?_) (fun q => by omega))
      exact oT_N 1 rfl (oT_Ret rfl rfl rfl ⟨rfl, _, rfl, Or.inl ⟨rfl, hno⟩⟩)
    | succ d ih =>
      intro i hi hno
      have hrl := m5 i (by omega)
      have rr : oRw (77 + M.rl i) := by have := oRw_77 (M.rl i) (by omega); first | exact this.1 | exact this.2
      refine oT_N 4 rfl (oT_le M.Q i g2 rfl (by omega) (by omega) (fun q => by omega) (fun _ => ?_))
      refine oT_N 5 rfl (oT_I (o := 25) (n := nI i) rfl (Or.inl ⟨rfl, by decide⟩) (ox_ix (N := 8) (by omega) (by decide)) ?_)
      rw [nI_clamp (show i < 2 ^ 31 by omega), g4 i (by omega)]
      refine oT_A (o := 76) (n := nI (M.rl i)) rfl ⟨rfl, by decide⟩ (ox_ix (N := 40) (by omega) (by decide)) ?_
      rw [nI_clamp (by omega)]
      refine oT_N 2 rfl (oT_S (PostC := fun o σ' => σ' = σ ∧ ∃ t : Bool, o = .inl (some (.int (if t then 1 else 0))) ∧ (t = true ↔ oRg n (oBr σ (77 + M.rl i)))) rfl rfl rfl (by omega) (by omega) (by
        have e := ot_hasRing (L := L) (k := k) (σ := σ) (n := n) rr hn
        rw [← h0] at e
        exact e) (fun x σ2 h => by obtain ⟨-, t, h, -⟩ := h; cases h) (fun v σ2 hv => ?_))
      obtain ⟨rfl, t, hv, ht⟩ := hv
      cases hv
      show oT L (k + 1) 2 28 [some (.ref 4), some (.ref 2), some (.int (nI i))] [.int (if t then 1 else 0)] σ2 _
      cases t with
      | false =>
        refine oT_N 1 rfl (oT_If (fun _ => ?_) (fun (q : ¬ (0 : Int32) = 0) => absurd rfl q))
        have e := ih (i + 1) (by omega) (fun j hj => by
          rcases Nat.lt_or_ge j i with q2 | q2
          · exact hno j q2
          · obtain rfl : j = i := by omega
            intro e
            have := ht.mpr e
            cases this)
        rw [← ox_inc i] at e
        exact oT_N 2 rfl e
      | true =>
        refine oT_N 1 rfl (oT_If (fun (q : (1 : Int32) = 0) => absurd q (by decide)) (fun _ => ?_))
        exact oT_N 1 rfl (oT_Ret rfl rfl rfl ⟨rfl, _, rfl, Or.inr ⟨i, by omega, rfl, ht.mp rfl, hno⟩⟩)
  exact loop M.Q 0 (by omega) (fun j hj => by omega)
set_option maxHeartbeats 1000000 in
theorem ot_markWantedt {all : Bool} (hm : oCo σ M) (h1 : σ 4 1 = nI M.R) : oT L k 4 0 [some (.ref 4), some (.ref 2), some (.int (if all then 1 else 0)), none] [] σ (fun o σ' => o = .inl none ∧ (∀ o, o ≠ 118 → σ' o = σ o) ∧ ∃ W : Nat → Bool, (∀ r, r < M.R → σ' 118 r = if W r then 1 else 0) ∧ oWt M W ∧ (all = true → ∀ r, r < M.R → W r = true)) := by
  obtain ⟨⟨m1, m2, m3, m4, m5⟩, g1, g2, g3, g4⟩ := id hm
  -- what relations are made of
  have down : ∀ (d : Nat) (τ : ox_S) (W : Nat → Bool), 12 + d ≤ M.R → (∀ o, o ≠ 118 → τ o = σ o) → (∀ r, r < M.R → τ 118 r = if W r then 1 else 0) → (∀ i, i < M.Q → W (M.rl i) = true) → (all = true → ∀ r, r < M.R → W r = true) → (∀ r, 12 + d ≤ r → r < M.R → W r = true → W (M.lf r) = true ∧ W (M.rt r) = true) → oT L k 4 58 [some (.ref 4), some (.ref 2), some (.int (if all then 1 else 0)), some (.int (nI (12 + d) + Int32.ofInt (-1)))] [] τ (fun o σ' => o = .inl none ∧ (∀ o, o ≠ 118 → σ' o = σ o) ∧ ∃ W : Nat → Bool, (∀ r, r < M.R → σ' 118 r = if W r then 1 else 0) ∧ oWt M W ∧ (all = true → ∀ r, r < M.R → W r = true)) := by
    intro d
    induction d with
    | zero =>
      intro τ W hd t1 t2 t3 t4 t5
      refine oT_N 3 rfl (oT_If (fun _ => ?_) (fun q => absurd (show nI (12 + 0) + Int32.ofInt (-1) < (Int8.ofInt 12).toInt32 by decide) q))
      exact oT_Retv rfl rfl ⟨rfl, t1, W, t2, ⟨t3, fun r q1 q2 q3 => t5 r (by omega) q2 q3⟩, t4⟩
    | succ d ih =>
      intro τ W hd t1 t2 t3 t4 t5
      rw [show 12 + (d + 1) = (12 + d) + 1 by omega, ox_dec]
      have cr : (nI (12 + d)).toNatClampNeg = 12 + d := nI_clamp (by omega)
      have nr : ¬ (nI (12 + d) < 0 ∨ 40 ≤ (nI (12 + d)).toNatClampNeg) := ox_ix (by omega) (by decide)
      obtain ⟨s1, s2, s3⟩ := m4 (12 + d) (by omega) (by omega)
      obtain ⟨u1, u2, u3⟩ := g3 (12 + d) (by omega) (by omega)
      refine oT_N 3 rfl (oT_lt (12 + d) 12 rfl rfl (by omega) (by decide) (fun q => by omega) (fun _ => ?_))
      refine oT_N 3 rfl (oT_Z (o := 118) (n := nI (12 + d)) rfl ⟨rfl, by decide⟩ nr ?_)
      rw [cr, t2 _ (by omega)]
      refine oT_N 1 rfl (oT_b (W (12 + d)) rfl (fun q => ?_) (fun q => ?_))
      · refine oT_N 2 rfl (ih τ W (by omega) t1 t2 t3 t4 (fun r q1 q2 q3 => ?_))
        rcases Nat.lt_or_ge (12 + d) r with q4 | q4
        · exact t5 r (by omega) q2 q3
        · obtain rfl : r = 12 + d := by omega
          rw [q] at q3
          cases q3
      · refine oT_N 5 rfl (oT_I (o := 23) (n := nI (12 + d)) rfl (Or.inl ⟨rfl, by decide⟩) nr ?_)
        rw [cr, t1 23 (by decide), u2]
        refine oT_N 1 rfl (oT_Zs (o := 118) (n := nI (M.lf (12 + d))) (x := if true then 1 else 0) rfl ⟨rfl, by decide⟩ (ox_ix (N := 40) (by omega) (by decide)) ?_)
        rw [nI_clamp (by omega), ox_nar01]
        refine oT_N 5 rfl (oT_I (o := 24) (n := nI (12 + d)) rfl (Or.inl ⟨rfl, by decide⟩) nr ?_)
        rw [cr, ox_up_ne (by decide), t1 24 (by decide), u3]
        refine oT_N 1 rfl (oT_Zs (o := 118) (n := nI (M.rt (12 + d))) (x := if true then 1 else 0) rfl ⟨rfl, by decide⟩ (ox_ix (N := 40) (by omega) (by decide)) ?_)
        rw [nI_clamp (by omega), ox_nar01]
        refine oT_N 2 rfl (ih _ (fun r => decide (r = M.lf (12 + d) ∨ r = M.rt (12 + d)) || W r) (by omega) (fun o ho => by rw [ox_up_ne ho, ox_up_ne ho]; exact t1 o ho) (fun r hr => ?_) (fun i hi => by rw [t3 i hi, Bool.or_true]) (fun qa r hr => by rw [t4 qa r hr, Bool.or_true]) (fun r q1 q2 q3 => ?_))
        · rw [ox_up_at, ox_up_at]
          by_cases e1 : r = M.rt (12 + d)
          · rw [if_pos e1, decide_eq_true (Or.inr e1)]
            rfl
          · rw [if_neg e1]
            by_cases e2 : r = M.lf (12 + d)
            · rw [if_pos e2, decide_eq_true (Or.inl e2)]
              rfl
            · rw [if_neg e2, decide_eq_false (fun e => e.elim e2 e1), Bool.false_or]
              exact t2 r hr
        · rcases Nat.lt_or_ge (12 + d) r with q4 | q4
          · have hW : W r = true := by
              rw [decide_eq_false (show ¬ (r = M.lf (12 + d) ∨ r = M.rt (12 + d)) by omega), Bool.false_or] at q3
              exact q3
            obtain ⟨c1, c2⟩ := t5 r (by omega) q2 hW
            rw [c1, c2, Bool.or_true, Bool.or_true]
            exact ⟨rfl, rfl⟩
          · obtain rfl : r = 12 + d := by omega
            rw [decide_eq_true (Or.inl rfl), decide_eq_true (Or.inr rfl)]
            exact ⟨rfl, rfl⟩
  -- the rules
  have rules : ∀ (d i : Nat) (τ : ox_S) (W : Nat → Bool), i + d = M.Q → (∀ o, o ≠ 118 → τ o = σ o) → (∀ r, r < M.R → τ 118 r = if W r then 1 else 0) → (∀ j, j < i → W (M.rl j) = true) → (all = true → ∀ r, r < M.R → W r = true) → oT L k 4 25 [some (.ref 4), some (.ref 2), some (.int (if all then 1 else 0)), some (.int (nI i))] [] τ (fun o σ' => o = .inl none ∧ (∀ o, o ≠ 118 → σ' o = σ o) ∧ ∃ W : Nat → Bool, (∀ r, r < M.R → σ' 118 r = if W r then 1 else 0) ∧ oWt M W ∧ (all = true → ∀ r, r < M.R → W r = true)) := by
    intro d
    induction d with
    | zero =>
      intro i τ W hi t1 t2 t3 t4
      refine oT_N 4 rfl (oT_le M.Q i (by rw [t1 2 (by decide)]; exact g2) rfl (by omega) (by omega) (fun _ => ?_) (fun q => by omega))
      have e := down (M.R - 12) τ W (by omega) t1 t2 (fun j hj => t3 j (by omega)) t4 (fun r q1 q2 => by omega)
      rw [show 12 + (M.R - 12) = M.R by omega, ← ox_sub1, ← h1, ← t1 4 (by decide)] at e
      exact oT_N 5 rfl e
    | succ d ih =>
      intro i τ W hi t1 t2 t3 t4
      have hrl := m5 i (by omega)
      refine oT_N 4 rfl (oT_le M.Q i (by rw [t1 2 (by decide)]; exact g2) rfl (by omega) (by omega) (fun q => by omega) (fun _ => ?_))
      refine oT_N 5 rfl (oT_I (o := 25) (n := nI i) rfl (Or.inl ⟨rfl, by decide⟩) (ox_ix (N := 8) (by omega) (by decide)) ?_)
      rw [nI_clamp (show i < 2 ^ 31 by omega), t1 25 (by decide), g4 i (by omega)]
      refine oT_N 1 rfl (oT_Zs (o := 118) (n := nI (M.rl i)) (x := if true then 1 else 0) rfl ⟨rfl, by decide⟩ (ox_ix (N := 40) (by omega) (by decide)) ?_)
      rw [nI_clamp (by omega), ox_nar01]
      have e := ih (i + 1) (ox_up τ 118 (M.rl i) (if true then 1 else 0)) (fun r => decide (r = M.rl i) || W r) (by omega) (fun o ho => by rw [ox_up_ne ho]; exact t1 o ho) (fun r hr => by
        rw [ox_up_at]
        by_cases e1 : r = M.rl i
        · rw [if_pos e1, decide_eq_true e1]
          rfl
        · rw [if_neg e1, decide_eq_false e1, Bool.false_or]
          exact t2 r hr) (fun j hj => by
        rcases Nat.lt_or_ge j i with q | q
        · rw [t3 j q, Bool.or_true]
        · obtain rfl : j = i := by omega
          rw [decide_eq_true rfl]
          rfl) (fun qa r hr => by rw [t4 qa r hr, Bool.or_true])
      rw [← ox_inc i] at e
      exact oT_N 2 rfl e
  refine oT_N 2 rfl ?_
  have first : ∀ (d r : Nat) (τ : ox_S), r + d = M.R → (∀ o, o ≠ 118 → τ o = σ o) → (∀ r', r' < r → τ 118 r' = if all then 1 else 0) → oT L k 4 2 [some (.ref 4), some (.ref 2), some (.int (if all then 1 else 0)), some (.int (nI r))] [] τ (fun o σ' => o = .inl none ∧ (∀ o, o ≠ 118 → σ' o = σ o) ∧ ∃ W : Nat → Bool, (∀ r, r < M.R → σ' 118 r = if W r then 1 else 0) ∧ oWt M W ∧ (all = true → ∀ r, r < M.R → W r = true)) := by
    intro d
    induction d with
    | zero =>
      intro r τ hr t1 t2
      refine oT_N 4 rfl (oT_le M.R r (by rw [t1 4 (by decide)]; exact h1) rfl (by omega) (by omega) (fun _ => ?_) (fun q => by omega))
      exact oT_N 2 rfl (rules M.Q 0 τ (fun _ => all) (by omega) t1 (fun r' hr' => t2 r' (by omega)) (fun j hj => by omega) (fun qa _ _ => qa))
    | succ d ih =>
      intro r τ hr t1 t2
      refine oT_N 4 rfl (oT_le M.R r (by rw [t1 4 (by decide)]; exact h1) rfl (by omega) (by omega) (fun q => by omega) (fun _ => ?_))
      refine oT_N 4 rfl (oT_Zs (o := 118) (n := nI r) (x := if all then 1 else 0) rfl ⟨rfl, by decide⟩ (ox_ix (N := 40) (by omega) (by decide)) ?_)
      rw [nI_clamp (by omega), ox_nar01]
      have e := ih (r + 1) (ox_up τ 118 r (if all then 1 else 0)) (by omega) (fun o ho => by rw [ox_up_ne ho]; exact t1 o ho) (fun r' hr' => by
        rw [ox_up_at]
        by_cases e1 : r' = r
        · rw [if_pos e1]
        · rw [if_neg e1]; exact t2 r' (by omega))
      rw [← ox_inc r] at e
      exact oT_N 2 rfl e
  exact first M.R 0 σ (by omega) (fun _ _ => rfl) (fun r' hr' => by omega)
set_option maxHeartbeats 2000000 in
theorem ot_preparet {all : Bool} (h : oC σ P) (hm : oCo σ M) (hk : 4 ≤ k) (hk9 : k ≤ 9) : oT L k 0 0 [some (.ref 4), some (.ref 1), some (.ref 2), some (.int (if all then 1 else 0)), none] [] σ (fun o σ' => o = .inl none ∧ (∀ o, o ≠ 4 → o < 77 ∨ 120 < o → σ' o = σ o) ∧ ∃ W, oPp σ' 4 77 120 P M W ∧ (all = true → ∀ r, r < M.R → W r = true)) := by
  obtain ⟨k, rfl⟩ : ∃ k', k = k' + 1 := ⟨k - 1, by omega⟩
  have hPn := h.1.2.1
  obtain ⟨hMok, g1, g2, g3, g4⟩ := id hm
  obtain ⟨m1, m2, m3, m4, m5⟩ := id hMok
  have u0 : ∀ o, o ≠ 4 → ox_up (ox_up (ox_up σ 4 0 (σ 1 1)) 4 1 (σ 2 0)) 4 2 (σ 1 2) o = σ o := fun o ho => by rw [ox_up_ne ho, ox_up_ne ho, ox_up_ne ho]
  have fs := ot_fillSteadyt (L := L) (k := k) (σ := ox_up (ox_up (ox_up σ 4 0 (σ 1 1)) 4 1 (σ 2 0)) 4 2 (σ 1 2)) (P := P) (oC_ext h (u0 1 (by decide)) (fun o q1 q2 => u0 o (by omega))) h.2.2.1 (by omega) (by omega)
  refine oT_N 14 rfl (oT_V rfl rfl rfl rfl (by omega) (by omega) fs (fun x σ2 h => by cases h.1) (fun v τ1 hv => ?_))
  obtain ⟨hv, v1, v2⟩ := hv
  cases hv
  have w0 : ∀ o, o ≠ 4 → o < 77 ∨ 88 < o → τ1 o = σ o := fun o q1 q2 => by rw [v1 o q2]; exact u0 o q1
  have w1 : τ1 4 0 = nI P.n := by rw [v1 4 (by decide)]; exact h.2.2.1
  have w2 : τ1 4 1 = nI M.R := by rw [v1 4 (by decide)]; exact g1
  have w3 : τ1 4 2 = nI (ocR P P.n) := by rw [v1 4 (by decide)]; exact h.2.2.2.1
  have hm1 : oCo τ1 M := oCo_ext hm (w0 2 (by decide) (by decide)) (fun o q1 q2 => w0 o (by omega) (by omega))
  show oT L (k + 1) 0 29 [some (.ref 4), some (.ref 1), some (.ref 2), some (.int (if all then 1 else 0)), none] [] τ1 _
  refine oT_N 3 rfl (oT_V rfl rfl rfl rfl (by omega) (by omega) (ot_markWantedt (all := all) hm1 w2) (fun x σ2 h => by cases h.1) (fun v τ2 hv => ?_))
  obtain ⟨hv, x1, W, x2, x3, x4⟩ := hv
  cases hv
  show oT L (k + 1) 0 35 [some (.ref 4), some (.ref 1), some (.ref 2), some (.int (if all then 1 else 0)), none] [] τ2 _
  have loop : ∀ (d r : Nat) (τ : ox_S), r + d = M.R → (∀ o, o ≠ 4 → o < 77 ∨ 120 < o → τ o = σ o) → τ 4 0 = nI P.n → τ 4 1 = nI M.R → τ 4 2 = nI (ocR P P.n) → τ 4 12 = nI (oCn (oPf M W) r) → (∀ r', r' < M.R → τ 118 r' = if W r' then 1 else 0) → (∀ r', r' < r → τ 119 r' = if oSd M r' then 1 else 0) → (∀ j, j < oCn (oPf M W) r → τ 120 j = nI (oKt (oPf M W) r j)) → (∀ r', r' < 12 → (r' = 0 ∨ 5 ≤ r') → ∀ a b, a < P.n → b < P.n → oBr τ (77 + r') a b = oGv P (oXs P 0) r' a b) → oIR P.n M (oGv P (oXs P 0)) r (fun r => W r = true ∧ oSd M r = true) (oVw τ 77) → oT L (k + 1) 0 43 [some (.ref 4), some (.ref 1), some (.ref 2), some (.int (if all then 1 else 0)), some (.int (nI r))] [] τ (fun o σ' => o = .inl none ∧ (∀ o, o ≠ 4 → o < 77 ∨ 120 < o → σ' o = σ o) ∧ ∃ W, oPp σ' 4 77 120 P M W ∧ (all = true → ∀ r, r < M.R → W r = true)) := by
    intro d
    induction d with
    | zero =>
      intro r τ hr i0 i1 i1b i1c i1d i2 i3 i4 i5 i6
      obtain rfl : r = M.R := by omega
      refine oT_N 4 rfl (oT_le M.R M.R i1b rfl (by omega) (by omega) (fun _ => ?_) (fun q => by omega))
      exact oT_Retv rfl rfl ⟨rfl, i0, W, ⟨x3, i1, i1b, i1c, i1d, i4, i6⟩, x4⟩
    | succ d ih =>
      intro r τ hr i0 i1 i1b i1c i1d i2 i3 i4 i5 i6
      have cr : (nI r).toNatClampNeg = r := nI_clamp (by omega)
      have nr : ¬ (nI r < 0 ∨ 40 ≤ (nI r).toNatClampNeg) := ox_ix (by omega) (by decide)
      have hcn := oCn_le (oPf M W) r
      refine oT_N 4 rfl (oT_le M.R r i1b rfl (by omega) (by omega) (fun q => by omega) (fun _ => ?_))
      refine oT_N 3 rfl (oT_le 12 r rfl rfl (by decide) (by omega) (fun q12 => ?_) (fun q12 => ?_))
      · obtain ⟨s1, s2, s3⟩ := m4 r q12 (by omega)
        obtain ⟨t1, t2, t3⟩ := g3 r q12 (by omega)
        have hsd := oSd_hi hMok q12 (show r < M.R by omega)
        -- from behind the store
        have cont : ∀ τ' : ox_S, (∀ o, o ≠ 119 → τ' o = τ o) → (∀ q, q ≠ r → τ' 119 q = τ 119 q) → τ' 119 r = (if oSd M r then 1 else 0) → oT L (k + 1) 0 128 [some (.ref 4), some (.ref 1), some (.ref 2), some (.int (if all then 1 else 0)), some (.int (nI r))] [] τ' (fun o σ' => o = .inl none ∧ (∀ o, o ≠ 4 → o < 77 ∨ 120 < o → σ' o = σ o) ∧ ∃ W, oPp σ' 4 77 120 P M W ∧ (all = true → ∀ r, r < M.R → W r = true)) := fun τ' y0 y1 y2 => by
          have z3 : ∀ τ2 : ox_S, (∀ q, τ2 119 q = τ' 119 q) → ∀ r', r' < r + 1 → τ2 119 r' = if oSd M r' then 1 else 0 := fun τ2 hq r' hr' => by
            rw [hq]
            by_cases e : r' = r
            · rw [e]; exact y2
            · rw [y1 r' e]; exact i3 r' (by omega)
          -- no fill
          have skip : ¬ (W r = true ∧ oSd M r = true) → ∀ τ2 : ox_S, (∀ o, o ≠ 120 → o ≠ 4 → τ2 o = τ' o) → (∀ q, q ≠ 12 → τ2 4 q = τ' 4 q) → τ2 4 12 = nI (oCn (oPf M W) (r + 1)) → (∀ j, j < oCn (oPf M W) (r + 1) → τ2 120 j = nI (oKt (oPf M W) (r + 1) j)) → oT L (k + 1) 0 189 [some (.ref 4), some (.ref 1), some (.ref 2), some (.int (if all then 1 else 0)), some (.int (nI r))] [] τ2 (fun o σ' => o = .inl none ∧ (∀ o, o ≠ 4 → o < 77 ∨ 120 < o → σ' o = σ o) ∧ ∃ W, oPp σ' 4 77 120 P M W ∧ (all = true → ∀ r, r < M.R → W r = true)) := fun hno τ2 b0 bX b12 b4 => by
            have hb : ∀ o, o < 118 → o ≠ 4 → τ2 o = τ o := fun o q1 q2 => by rw [b0 o (by omega) q2, y0 o (by omega)]
            have hrow : ∀ r', r' < 40 → oBr τ2 (77 + r') = oBr τ (77 + r') := fun r' q => by
              funext a b
              unfold oBr
              rw [hb _ (by omega) (by omega)]
            have hX : ∀ q, q ≠ 12 → τ2 4 q = τ 4 q := fun q hq => by rw [bX q hq, y0 4 (by decide)]
            have e := ih (r + 1) τ2 (by omega) (fun o q1 q2 => by rw [b0 o (by omega) q1, y0 o (by omega)]; exact i0 o q1 q2) (by rw [hX 0 (by decide)]; exact i1) (by rw [hX 1 (by decide)]; exact i1b) (by rw [hX 2 (by decide)]; exact i1c) b12 (fun r' hr' => by rw [b0 118 (by decide) (by decide), y0 118 (by decide)]; exact i2 r' hr') (z3 τ2 (fun q => by rw [b0 119 (by decide) (by decide)])) b4 (fun r' q1 q2 a b ha hb' => by rw [hrow r' (by omega)]; exact i5 r' q1 q2 a b ha hb') (fun r' hr' hw' a b ha hb' => by
              rcases Nat.lt_or_ge r' r with q | q
              · obtain ⟨j1, j2⟩ := i6 r' q hw' a b ha hb'
                unfold oVw at j1 j2 ⊢
                refine ⟨fun q2 => by rw [hrow r' (by omega)]; exact j1 q2, fun q2 => ?_⟩
                obtain ⟨n1, n2, n3⟩ := m4 r' q2 (by omega)
                rw [hrow r' (by omega), hrow (M.lf r') (by omega), hrow (M.rt r') (by omega)]
                exact j2 q2
              · obtain rfl : r' = r := by omega
                exact absurd hw' hno)
            rw [← ox_inc r] at e
            exact oT_N 2 rfl e
          have noPlan : oPf M W r = false → oT L (k + 1) 0 189 [some (.ref 4), some (.ref 1), some (.ref 2), some (.int (if all then 1 else 0)), some (.int (nI r))] [] τ' (fun o σ' => o = .inl none ∧ (∀ o, o ≠ 4 → o < 77 ∨ 120 < o → σ' o = σ o) ∧ ∃ W, oPp σ' 4 77 120 P M W ∧ (all = true → ∀ r, r < M.R → W r = true)) ∨ (W r = true ∧ oSd M r = true) := fun hf => by
            by_cases hno : W r = true ∧ oSd M r = true
            · exact Or.inr hno
            · refine Or.inl (skip hno τ' (fun _ _ _ => rfl) (fun _ _ => rfl) ?_ (fun j hj => ?_))
              · rw [y0 4 (by decide), i1d]
                simp [oCn, hf]
              · have e1 : oCn (oPf M W) (r + 1) = oCn (oPf M W) r := by simp [oCn, hf]
                rw [e1] at hj
                rw [y0 120 (by decide), i4 j hj]
                simp [oKt, hf]
          have hw118 : ∀ q, q < M.R → τ' 118 q = if W q then 1 else 0 := fun q hq => by rw [y0 118 (by decide)]; exact i2 q hq
          refine oT_N 3 rfl (oT_Z (o := 118) (n := nI r) rfl ⟨rfl, by decide⟩ nr ?_)
          rw [cr, hw118 r (by omega)]
          refine oT_N 1 rfl (oT_b (W r) rfl (fun qw => ?_) (fun qw => ?_))
          · refine oT_N 3 rfl (oT_Z (o := 118) (n := nI r) rfl ⟨rfl, by decide⟩ nr ?_)
            rw [cr, hw118 r (by omega)]
            refine oT_N 1 rfl (oT_b (W r) rfl (fun _ => ?_) (fun q => by rw [qw] at q; cases q))
            rcases noPlan (by unfold oPf; rw [qw]; simp) with e | e
            · exact e
            · rw [qw] at e
              cases e.1
          · refine oT_N 3 rfl (oT_Z (o := 119) (n := nI r) rfl ⟨rfl, by decide⟩ nr ?_)
            rw [cr, y2]
            refine oT_N 1 rfl (oT_b (oSd M r) rfl (fun qs => ?_) (fun qs => ?_))
            · have hf : oPf M W r = true := oPf_iff.mpr ⟨q12, qw, qs⟩
              refine oT_N 3 rfl (oT_Z (o := 118) (n := nI r) rfl ⟨rfl, by decide⟩ nr ?_)
              rw [cr, hw118 r (by omega)]
              refine oT_N 1 rfl (oT_b (W r) rfl (fun q => by rw [qw] at q; cases q) (fun _ => ?_))
              have e12 : τ' 4 12 = nI (oCn (oPf M W) r) := by rw [y0 4 (by decide)]; exact i1d
              refine oT_N 5 rfl (oT_Is (o := 120) (n := τ' 4 12) (x := nI r) rfl ⟨rfl, by decide⟩ (by rw [e12]; exact ox_ix (N := 40) (by omega) (by decide)) ?_)
              rw [e12, nI_clamp (by omega)]
              have e1 : oCn (oPf M W) (r + 1) = oCn (oPf M W) r + 1 := by simp [oCn, hf]
              refine oT_N 6 rfl (skip (fun q => by rw [qs] at q; cases q.2) _ (fun o q1 q2 => by rw [ox_up_ne q2, ox_up_ne q1]) (fun q hq => by rw [ox_up_at, if_neg hq, ox_up_ne (by decide)]) ?_ (fun j hj => ?_))
              · rw [ox_up_at, if_pos rfl, ox_up_ne (by decide), e12, ox_inc, e1]
              · rw [e1] at hj
                rw [ox_up_ne (by decide), ox_up_at]
                simp only [oKt]
                by_cases e : j = oCn (oPf M W) r
                · rw [if_pos e, if_pos ⟨hf, e.symm⟩]
                · rw [if_neg e, if_neg (fun q => e q.2.symm), y0 120 (by decide)]
                  exact i4 j (by omega)
            · have hf : oPf M W r = false := by unfold oPf; rw [qs]; simp
              have hm2 : oCo τ' M := oCo_ext hm (by rw [y0 2 (by decide)]; exact i0 2 (by decide) (by decide)) (fun o q1 q2 => by rw [y0 o (by omega)]; exact i0 o (by omega) (by omega))
              refine oT_N 3 rfl (oT_V rfl rfl rfl rfl (by omega) (by omega) (ot_fillMadet (n := P.n) hm2 q12 (show r < M.R by omega) (by rw [y0 4 (by decide)]; exact i1) hPn (by omega) (by omega)) (fun x σ2 h => by cases h.1) (fun v τ3 hv => ?_))
              obtain ⟨hv, f1, f2⟩ := hv
              cases hv
              have hb : ∀ o, o ≠ 77 + r → o ≠ 119 → τ3 o = τ o := fun o q1 q2 => by rw [f1 o q1, y0 o q2]
              have hrow : ∀ r', r' < 40 → r' ≠ r → oBr τ3 (77 + r') = oBr τ (77 + r') := fun r' q q2 => by
                funext a b
                unfold oBr
                rw [hb _ (by omega) (by omega)]
              have hrow' : ∀ r', r' < 40 → oBr τ' (77 + r') = oBr τ (77 + r') := fun r' q => by
                funext a b
                unfold oBr
                rw [y0 _ (by omega)]
              have e := ih (r + 1) τ3 (by omega) (fun o q1 q2 => by rw [hb o (by omega) (by omega)]; exact i0 o q1 q2) (by rw [hb 4 (by omega) (by decide)]; exact i1) (by rw [hb 4 (by omega) (by decide)]; exact i1b) (by rw [hb 4 (by omega) (by decide)]; exact i1c) (by
                rw [hb 4 (by omega) (by decide), i1d]
                simp [oCn, hf]) (fun r' hr' => by rw [hb 118 (by omega) (by decide)]; exact i2 r' hr') (z3 τ3 (fun q => by rw [f1 119 (by omega)])) (fun j hj => by
                have e1 : oCn (oPf M W) (r + 1) = oCn (oPf M W) r := by simp [oCn, hf]
                rw [e1] at hj
                rw [hb 120 (by omega) (by decide), i4 j hj]
                simp [oKt, hf]) (fun r' q1 q2 a b ha hb' => by rw [hrow r' (by omega) (by omega)]; exact i5 r' q1 q2 a b ha hb') (fun r' hr' hw' a b ha hb' => by
                rcases Nat.lt_or_ge r' r with q | q
                · obtain ⟨j1, j2⟩ := i6 r' q hw' a b ha hb'
                  unfold oVw at j1 j2 ⊢
                  refine ⟨fun q2 => by rw [hrow r' (by omega) (by omega)]; exact j1 q2, fun q2 => ?_⟩
                  obtain ⟨n1, n2, n3⟩ := m4 r' q2 (by omega)
                  rw [hrow r' (by omega) (by omega), hrow (M.lf r') (by omega) (by omega), hrow (M.rt r') (by omega) (by omega)]
                  exact j2 q2
                · obtain rfl : r' = r := by omega
                  refine ⟨fun q2 => by omega, fun q2 => ?_⟩
                  unfold oVw
                  rw [hrow (M.lf r') (by omega) (by omega), hrow (M.rt r') (by omega) (by omega), ← hrow' (M.lf r') (by omega), ← hrow' (M.rt r') (by omega)]
                  exact f2 a b ha hb')
              rw [← ox_inc r] at e
              exact oT_N 3 rfl e
        refine oT_N 8 rfl (oT_I (o := 23) (n := nI r) rfl (Or.inl ⟨rfl, by decide⟩) nr ?_)
        rw [cr, i0 23 (by decide) (by decide), t2]
        refine oT_Z (o := 119) (n := nI (M.lf r)) rfl ⟨rfl, by decide⟩ (ox_ix (N := 40) (by omega) (by decide)) ?_
        rw [nI_clamp (by omega), i3 _ s2]
        have st0 : oSd M r = false → oT L (k + 1) 0 126 [some (.ref 4), some (.ref 1), some (.ref 2), some (.int (if all then 1 else 0)), some (.int (nI r))] [.int (nI r), .ref 119] τ (fun o σ' => o = .inl none ∧ (∀ o, o ≠ 4 → o < 77 ∨ 120 < o → σ' o = σ o) ∧ ∃ W, oPp σ' 4 77 120 P M W ∧ (all = true → ∀ r, r < M.R → W r = true)) := fun hs => by
          refine oT_N 1 rfl (oT_Zs (o := 119) (n := nI r) (x := if false then 1 else 0) rfl ⟨rfl, by decide⟩ nr ?_)
          rw [cr, ox_nar01]
          exact cont _ (fun o ho => ox_up_ne ho) (fun q hq => by rw [ox_up_at, if_neg hq]) (by rw [ox_up_at, if_pos rfl, hs])
        refine oT_N 1 rfl (oT_b (oSd M (M.lf r)) rfl (fun ql => ?_) (fun ql => ?_))
        · exact st0 (by rw [hsd, ql, Bool.false_and])
        · refine oT_N 5 rfl (oT_I (o := 24) (n := nI r) rfl (Or.inl ⟨rfl, by decide⟩) nr ?_)
          rw [cr, i0 24 (by decide) (by decide), t3]
          refine oT_Z (o := 119) (n := nI (M.rt r)) rfl ⟨rfl, by decide⟩ (ox_ix (N := 40) (by omega) (by decide)) ?_
          rw [nI_clamp (by omega), i3 _ s3]
          refine oT_N 1 rfl (oT_b (oSd M (M.rt r)) rfl (fun qr => ?_) (fun qr => ?_))
          · exact st0 (by rw [hsd, qr, Bool.and_false])
          · refine oT_N 2 rfl (oT_Zs (o := 119) (n := nI r) (x := if true then 1 else 0) rfl ⟨rfl, by decide⟩ nr ?_)
            rw [cr, ox_nar01]
            exact cont _ (fun o ho => ox_up_ne ho) (fun q hq => by rw [ox_up_at, if_neg hq]) (by rw [ox_up_at, if_pos rfl, hsd, ql, qr]; rfl)
      · have hf : oPf M W r = false := by unfold oPf; rw [decide_eq_false (by omega)]; rfl
        have step : ∀ t : Bool, t = oSd M r → oT L (k + 1) 0 83 [some (.ref 4), some (.ref 1), some (.ref 2), some (.int (if all then 1 else 0)), some (.int (nI r))] [] (ox_up τ 119 r (if t then 1 else 0)) (fun o σ' => o = .inl none ∧ (∀ o, o ≠ 4 → o < 77 ∨ 120 < o → σ' o = σ o) ∧ ∃ W, oPp σ' 4 77 120 P M W ∧ (all = true → ∀ r, r < M.R → W r = true)) := fun t ht => by
          have hrow : ∀ r', r' < 40 → oBr (ox_up τ 119 r (if t then 1 else 0)) (77 + r') = oBr τ (77 + r') := fun r' q => by
            funext a b
            unfold oBr
            rw [ox_up_ne (by omega)]
          have e := ih (r + 1) (ox_up τ 119 r (if t then 1 else 0)) (by omega) (fun o q1 q2 => by rw [ox_up_ne (by omega)]; exact i0 o q1 q2) (by rw [ox_up_ne (by decide)]; exact i1) (by rw [ox_up_ne (by decide)]; exact i1b) (by rw [ox_up_ne (by decide)]; exact i1c) (by
            rw [ox_up_ne (by decide), i1d]
            simp [oCn, hf]) (fun r' hr' => by rw [ox_up_ne (by decide)]; exact i2 r' hr') (fun r' hr' => by
            rw [ox_up_at]
            by_cases e : r' = r
            · rw [if_pos e, e, ht]
            · rw [if_neg e]; exact i3 r' (by omega)) (fun j hj => by
            have e1 : oCn (oPf M W) (r + 1) = oCn (oPf M W) r := by simp [oCn, hf]
            rw [e1] at hj
            rw [ox_up_ne (by decide), i4 j hj]
            simp [oKt, hf]) (fun r' q1 q2 a b ha hb' => by rw [hrow r' (by omega)]; exact i5 r' q1 q2 a b ha hb') (fun r' hr' hw' a b ha hb' => by
            refine ⟨fun q2 => ?_, fun q2 => by omega⟩
            unfold oVw
            rw [hrow r' (by omega)]
            have hs := hw'.2
            rw [oSd_lo q2, decide_eq_true_eq] at hs
            exact i5 r' q2 (by omega) a b ha hb')
          rw [← ox_inc r] at e
          exact oT_N 3 rfl e
        refine oT_N 6 rfl (oT_lt r 1 rfl rfl (by omega) (by decide) (fun q => ?_) (fun q => ?_))
        · refine oT_N 2 rfl (oT_Zs (o := 119) (n := nI r) (x := if true then 1 else 0) rfl ⟨rfl, by decide⟩ nr ?_)
          rw [cr, ox_nar01]
          exact step true (by rw [oSd_lo q12, decide_eq_true (Or.inl q)])
        · refine oT_N 3 rfl (oT_le r 4 rfl rfl (by omega) (by decide) (fun q2 => ?_) (fun q2 => ?_))
          · refine oT_N 1 rfl (oT_Zs (o := 119) (n := nI r) (x := if false then 1 else 0) rfl ⟨rfl, by decide⟩ nr ?_)
            rw [cr, ox_nar01]
            exact step false (by rw [oSd_lo q12, decide_eq_false (by omega)])
          · refine oT_N 2 rfl (oT_Zs (o := 119) (n := nI r) (x := if true then 1 else 0) rfl ⟨rfl, by decide⟩ nr ?_)
            rw [cr, ox_nar01]
            exact step true (by rw [oSd_lo q12, decide_eq_true (Or.inr q2)])
  refine oT_N 5 rfl (loop M.R 0 _ (by omega) (fun o q1 q2 => ?_) ?_ ?_ ?_ rfl (fun r' hr' => ?_) (fun r' hr' => by omega) (fun j hj => absurd (show j < 0 from hj) (by omega)) (fun r' q1 q2 a b ha hb => ?_) (fun r' hr' => by omega))
  · rw [ox_up_ne q1, x1 o (by omega)]
    exact w0 o q1 (by omega)
  · rw [ox_up_at, if_neg (by decide), x1 4 (by decide)]; exact w1
  · rw [ox_up_at, if_neg (by decide), x1 4 (by decide)]; exact w2
  · rw [ox_up_at, if_neg (by decide), x1 4 (by decide)]; exact w3
  · rw [ox_up_ne (by decide)]; exact x2 r' hr'
  · unfold oBr
    rw [ox_up_ne (by omega), x1 _ (by omega)]
    exact (v2 r' q1 q2 a b ha hb).trans (oGv_st q2)
end OYGt

section OYGs
variable {L k n : Nat} {σ : ox_S} {P : oPr} {M : oMo}
theorem ot_firstBrokens (hm : oCo σ M) (h0 : σ 5 0 = nI n) (hn : n ≤ 12) (hk : 2 ≤ k) (hk9 : k ≤ 9) : oT L k 2 0 [some (.ref 5), some (.ref 2), none] [] σ (fun o σ' => σ' = σ ∧ ∃ b, o = .inl (some (.int b)) ∧ oBk n M (oVw σ 130) b) := by
  obtain ⟨k, rfl⟩ : ∃ k', k = k' + 1 := ⟨k - 1, by omega⟩
  obtain ⟨⟨m1, m2, m3, m4, m5⟩, g1, g2, g3, g4⟩ := id hm
  refine oT_N 2 rfl ?_
  have loop : ∀ (d i : Nat), i + d = M.Q → (∀ j, j < i → ¬ oRg n (oVw σ 130 (M.rl j))) → oT L (k + 1) 2 2 [some (.ref 5), some (.ref 2), some (.int (nI i))] [] σ (fun o σ' => σ' = σ ∧ ∃ b, o = .inl (some (.int b)) ∧ oBk n M (oVw σ 130) b) := by
    intro d
    induction d with
    | zero =>
      intro i hi hno
      obtain rfl : i = M.Q := by omega
      refine oT_N 4 rfl (oT_le M.Q M.Q g2 rfl (by omega) (by omega) (fun _ => ?_) (fun q => by omega))
      exact oT_N 1 rfl (oT_Ret rfl rfl rfl ⟨rfl, _, rfl, Or.inl ⟨rfl, hno⟩⟩)
    | succ d ih =>
      intro i hi hno
      have hrl := m5 i (by omega)
      have rr : oRw (130 + M.rl i) := by have := oRw_77 (M.rl i) (by omega); first | exact this.1 | exact this.2
      refine oT_N 4 rfl (oT_le M.Q i g2 rfl (by omega) (by omega) (fun q => by omega) (fun _ => ?_))
      refine oT_N 5 rfl (oT_I (o := 25) (n := nI i) rfl (Or.inl ⟨rfl, by decide⟩) (ox_ix (N := 8) (by omega) (by decide)) ?_)
      rw [nI_clamp (show i < 2 ^ 31 by omega), g4 i (by omega)]
      refine oT_A (o := 129) (n := nI (M.rl i)) rfl ⟨rfl, by decide⟩ (ox_ix (N := 40) (by omega) (by decide)) ?_
      rw [nI_clamp (by omega)]
      refine oT_N 2 rfl (oT_S (PostC := fun o σ' => σ' = σ ∧ ∃ t : Bool, o = .inl (some (.int (if t then 1 else 0))) ∧ (t = true ↔ oRg n (oBr σ (130 + M.rl i)))) rfl rfl rfl (by omega) (by omega) (by
        have e := ot_hasRing (L := L) (k := k) (σ := σ) (n := n) rr hn
        rw [← h0] at e
        exact e) (fun x σ2 h => by obtain ⟨-, t, h, -⟩ := h; cases h) (fun v σ2 hv => ?_))
      obtain ⟨rfl, t, hv, ht⟩ := hv
      cases hv
      show oT L (k + 1) 2 28 [some (.ref 5), some (.ref 2), some (.int (nI i))] [.int (if t then 1 else 0)] σ2 _
      cases t with
      | false =>
        refine oT_N 1 rfl (oT_If (fun _ => ?_) (fun (q : ¬ (0 : Int32) = 0) => absurd rfl q))
        have e := ih (i + 1) (by omega) (fun j hj => by
          rcases Nat.lt_or_ge j i with q2 | q2
          · exact hno j q2
          · obtain rfl : j = i := by omega
            intro e
            have := ht.mpr e
            cases this)
        rw [← ox_inc i] at e
        exact oT_N 2 rfl e
      | true =>
        refine oT_N 1 rfl (oT_If (fun (q : (1 : Int32) = 0) => absurd q (by decide)) (fun _ => ?_))
        exact oT_N 1 rfl (oT_Ret rfl rfl rfl ⟨rfl, _, rfl, Or.inr ⟨i, by omega, rfl, ht.mp rfl, hno⟩⟩)
  exact loop M.Q 0 (by omega) (fun j hj => by omega)
set_option maxHeartbeats 1000000 in
theorem ot_markWanteds {all : Bool} (hm : oCo σ M) (h1 : σ 5 1 = nI M.R) : oT L k 4 0 [some (.ref 5), some (.ref 2), some (.int (if all then 1 else 0)), none] [] σ (fun o σ' => o = .inl none ∧ (∀ o, o ≠ 171 → σ' o = σ o) ∧ ∃ W : Nat → Bool, (∀ r, r < M.R → σ' 171 r = if W r then 1 else 0) ∧ oWt M W ∧ (all = true → ∀ r, r < M.R → W r = true)) := by
  obtain ⟨⟨m1, m2, m3, m4, m5⟩, g1, g2, g3, g4⟩ := id hm
  -- what relations are made of
  have down : ∀ (d : Nat) (τ : ox_S) (W : Nat → Bool), 12 + d ≤ M.R → (∀ o, o ≠ 171 → τ o = σ o) → (∀ r, r < M.R → τ 171 r = if W r then 1 else 0) → (∀ i, i < M.Q → W (M.rl i) = true) → (all = true → ∀ r, r < M.R → W r = true) → (∀ r, 12 + d ≤ r → r < M.R → W r = true → W (M.lf r) = true ∧ W (M.rt r) = true) → oT L k 4 58 [some (.ref 5), some (.ref 2), some (.int (if all then 1 else 0)), some (.int (nI (12 + d) + Int32.ofInt (-1)))] [] τ (fun o σ' => o = .inl none ∧ (∀ o, o ≠ 171 → σ' o = σ o) ∧ ∃ W : Nat → Bool, (∀ r, r < M.R → σ' 171 r = if W r then 1 else 0) ∧ oWt M W ∧ (all = true → ∀ r, r < M.R → W r = true)) := by
    intro d
    induction d with
    | zero =>
      intro τ W hd t1 t2 t3 t4 t5
      refine oT_N 3 rfl (oT_If (fun _ => ?_) (fun q => absurd (show nI (12 + 0) + Int32.ofInt (-1) < (Int8.ofInt 12).toInt32 by decide) q))
      exact oT_Retv rfl rfl ⟨rfl, t1, W, t2, ⟨t3, fun r q1 q2 q3 => t5 r (by omega) q2 q3⟩, t4⟩
    | succ d ih =>
      intro τ W hd t1 t2 t3 t4 t5
      rw [show 12 + (d + 1) = (12 + d) + 1 by omega, ox_dec]
      have cr : (nI (12 + d)).toNatClampNeg = 12 + d := nI_clamp (by omega)
      have nr : ¬ (nI (12 + d) < 0 ∨ 40 ≤ (nI (12 + d)).toNatClampNeg) := ox_ix (by omega) (by decide)
      obtain ⟨s1, s2, s3⟩ := m4 (12 + d) (by omega) (by omega)
      obtain ⟨u1, u2, u3⟩ := g3 (12 + d) (by omega) (by omega)
      refine oT_N 3 rfl (oT_lt (12 + d) 12 rfl rfl (by omega) (by decide) (fun q => by omega) (fun _ => ?_))
      refine oT_N 3 rfl (oT_Z (o := 171) (n := nI (12 + d)) rfl ⟨rfl, by decide⟩ nr ?_)
      rw [cr, t2 _ (by omega)]
      refine oT_N 1 rfl (oT_b (W (12 + d)) rfl (fun q => ?_) (fun q => ?_))
      · refine oT_N 2 rfl (ih τ W (by omega) t1 t2 t3 t4 (fun r q1 q2 q3 => ?_))
        rcases Nat.lt_or_ge (12 + d) r with q4 | q4
        · exact t5 r (by omega) q2 q3
        · obtain rfl : r = 12 + d := by omega
          rw [q] at q3
          cases q3
      · refine oT_N 5 rfl (oT_I (o := 23) (n := nI (12 + d)) rfl (Or.inl ⟨rfl, by decide⟩) nr ?_)
        rw [cr, t1 23 (by decide), u2]
        refine oT_N 1 rfl (oT_Zs (o := 171) (n := nI (M.lf (12 + d))) (x := if true then 1 else 0) rfl ⟨rfl, by decide⟩ (ox_ix (N := 40) (by omega) (by decide)) ?_)
        rw [nI_clamp (by omega), ox_nar01]
        refine oT_N 5 rfl (oT_I (o := 24) (n := nI (12 + d)) rfl (Or.inl ⟨rfl, by decide⟩) nr ?_)
        rw [cr, ox_up_ne (by decide), t1 24 (by decide), u3]
        refine oT_N 1 rfl (oT_Zs (o := 171) (n := nI (M.rt (12 + d))) (x := if true then 1 else 0) rfl ⟨rfl, by decide⟩ (ox_ix (N := 40) (by omega) (by decide)) ?_)
        rw [nI_clamp (by omega), ox_nar01]
        refine oT_N 2 rfl (ih _ (fun r => decide (r = M.lf (12 + d) ∨ r = M.rt (12 + d)) || W r) (by omega) (fun o ho => by rw [ox_up_ne ho, ox_up_ne ho]; exact t1 o ho) (fun r hr => ?_) (fun i hi => by rw [t3 i hi, Bool.or_true]) (fun qa r hr => by rw [t4 qa r hr, Bool.or_true]) (fun r q1 q2 q3 => ?_))
        · rw [ox_up_at, ox_up_at]
          by_cases e1 : r = M.rt (12 + d)
          · rw [if_pos e1, decide_eq_true (Or.inr e1)]
            rfl
          · rw [if_neg e1]
            by_cases e2 : r = M.lf (12 + d)
            · rw [if_pos e2, decide_eq_true (Or.inl e2)]
              rfl
            · rw [if_neg e2, decide_eq_false (fun e => e.elim e2 e1), Bool.false_or]
              exact t2 r hr
        · rcases Nat.lt_or_ge (12 + d) r with q4 | q4
          · have hW : W r = true := by
              rw [decide_eq_false (show ¬ (r = M.lf (12 + d) ∨ r = M.rt (12 + d)) by omega), Bool.false_or] at q3
              exact q3
            obtain ⟨c1, c2⟩ := t5 r (by omega) q2 hW
            rw [c1, c2, Bool.or_true, Bool.or_true]
            exact ⟨rfl, rfl⟩
          · obtain rfl : r = 12 + d := by omega
            rw [decide_eq_true (Or.inl rfl), decide_eq_true (Or.inr rfl)]
            exact ⟨rfl, rfl⟩
  -- the rules
  have rules : ∀ (d i : Nat) (τ : ox_S) (W : Nat → Bool), i + d = M.Q → (∀ o, o ≠ 171 → τ o = σ o) → (∀ r, r < M.R → τ 171 r = if W r then 1 else 0) → (∀ j, j < i → W (M.rl j) = true) → (all = true → ∀ r, r < M.R → W r = true) → oT L k 4 25 [some (.ref 5), some (.ref 2), some (.int (if all then 1 else 0)), some (.int (nI i))] [] τ (fun o σ' => o = .inl none ∧ (∀ o, o ≠ 171 → σ' o = σ o) ∧ ∃ W : Nat → Bool, (∀ r, r < M.R → σ' 171 r = if W r then 1 else 0) ∧ oWt M W ∧ (all = true → ∀ r, r < M.R → W r = true)) := by
    intro d
    induction d with
    | zero =>
      intro i τ W hi t1 t2 t3 t4
      refine oT_N 4 rfl (oT_le M.Q i (by rw [t1 2 (by decide)]; exact g2) rfl (by omega) (by omega) (fun _ => ?_) (fun q => by omega))
      have e := down (M.R - 12) τ W (by omega) t1 t2 (fun j hj => t3 j (by omega)) t4 (fun r q1 q2 => by omega)
      rw [show 12 + (M.R - 12) = M.R by omega, ← ox_sub1, ← h1, ← t1 5 (by decide)] at e
      exact oT_N 5 rfl e
    | succ d ih =>
      intro i τ W hi t1 t2 t3 t4
      have hrl := m5 i (by omega)
      refine oT_N 4 rfl (oT_le M.Q i (by rw [t1 2 (by decide)]; exact g2) rfl (by omega) (by omega) (fun q => by omega) (fun _ => ?_))
      refine oT_N 5 rfl (oT_I (o := 25) (n := nI i) rfl (Or.inl ⟨rfl, by decide⟩) (ox_ix (N := 8) (by omega) (by decide)) ?_)
      rw [nI_clamp (show i < 2 ^ 31 by omega), t1 25 (by decide), g4 i (by omega)]
      refine oT_N 1 rfl (oT_Zs (o := 171) (n := nI (M.rl i)) (x := if true then 1 else 0) rfl ⟨rfl, by decide⟩ (ox_ix (N := 40) (by omega) (by decide)) ?_)
      rw [nI_clamp (by omega), ox_nar01]
      have e := ih (i + 1) (ox_up τ 171 (M.rl i) (if true then 1 else 0)) (fun r => decide (r = M.rl i) || W r) (by omega) (fun o ho => by rw [ox_up_ne ho]; exact t1 o ho) (fun r hr => by
        rw [ox_up_at]
        by_cases e1 : r = M.rl i
        · rw [if_pos e1, decide_eq_true e1]
          rfl
        · rw [if_neg e1, decide_eq_false e1, Bool.false_or]
          exact t2 r hr) (fun j hj => by
        rcases Nat.lt_or_ge j i with q | q
        · rw [t3 j q, Bool.or_true]
        · obtain rfl : j = i := by omega
          rw [decide_eq_true rfl]
          rfl) (fun qa r hr => by rw [t4 qa r hr, Bool.or_true])
      rw [← ox_inc i] at e
      exact oT_N 2 rfl e
  refine oT_N 2 rfl ?_
  have first : ∀ (d r : Nat) (τ : ox_S), r + d = M.R → (∀ o, o ≠ 171 → τ o = σ o) → (∀ r', r' < r → τ 171 r' = if all then 1 else 0) → oT L k 4 2 [some (.ref 5), some (.ref 2), some (.int (if all then 1 else 0)), some (.int (nI r))] [] τ (fun o σ' => o = .inl none ∧ (∀ o, o ≠ 171 → σ' o = σ o) ∧ ∃ W : Nat → Bool, (∀ r, r < M.R → σ' 171 r = if W r then 1 else 0) ∧ oWt M W ∧ (all = true → ∀ r, r < M.R → W r = true)) := by
    intro d
    induction d with
    | zero =>
      intro r τ hr t1 t2
      refine oT_N 4 rfl (oT_le M.R r (by rw [t1 5 (by decide)]; exact h1) rfl (by omega) (by omega) (fun _ => ?_) (fun q => by omega))
      exact oT_N 2 rfl (rules M.Q 0 τ (fun _ => all) (by omega) t1 (fun r' hr' => t2 r' (by omega)) (fun j hj => by omega) (fun qa _ _ => qa))
    | succ d ih =>
      intro r τ hr t1 t2
      refine oT_N 4 rfl (oT_le M.R r (by rw [t1 5 (by decide)]; exact h1) rfl (by omega) (by omega) (fun q => by omega) (fun _ => ?_))
      refine oT_N 4 rfl (oT_Zs (o := 171) (n := nI r) (x := if all then 1 else 0) rfl ⟨rfl, by decide⟩ (ox_ix (N := 40) (by omega) (by decide)) ?_)
      rw [nI_clamp (by omega), ox_nar01]
      have e := ih (r + 1) (ox_up τ 171 r (if all then 1 else 0)) (by omega) (fun o ho => by rw [ox_up_ne ho]; exact t1 o ho) (fun r' hr' => by
        rw [ox_up_at]
        by_cases e1 : r' = r
        · rw [if_pos e1]
        · rw [if_neg e1]; exact t2 r' (by omega))
      rw [← ox_inc r] at e
      exact oT_N 2 rfl e
  exact first M.R 0 σ (by omega) (fun _ _ => rfl) (fun r' hr' => by omega)
set_option maxHeartbeats 2000000 in
theorem ot_prepares {all : Bool} (h : oC σ P) (hm : oCo σ M) (hk : 4 ≤ k) (hk9 : k ≤ 9) : oT L k 0 0 [some (.ref 5), some (.ref 1), some (.ref 2), some (.int (if all then 1 else 0)), none] [] σ (fun o σ' => o = .inl none ∧ (∀ o, o ≠ 5 → o < 130 ∨ 173 < o → σ' o = σ o) ∧ ∃ W, oPp σ' 5 130 173 P M W ∧ (all = true → ∀ r, r < M.R → W r = true)) := by
  obtain ⟨k, rfl⟩ : ∃ k', k = k' + 1 := ⟨k - 1, by omega⟩
  have hPn := h.1.2.1
  obtain ⟨hMok, g1, g2, g3, g4⟩ := id hm
  obtain ⟨m1, m2, m3, m4, m5⟩ := id hMok
  have u0 : ∀ o, o ≠ 5 → ox_up (ox_up (ox_up σ 5 0 (σ 1 1)) 5 1 (σ 2 0)) 5 2 (σ 1 2) o = σ o := fun o ho => by rw [ox_up_ne ho, ox_up_ne ho, ox_up_ne ho]
  have fs := ot_fillSteadys (L := L) (k := k) (σ := ox_up (ox_up (ox_up σ 5 0 (σ 1 1)) 5 1 (σ 2 0)) 5 2 (σ 1 2)) (P := P) (oC_ext h (u0 1 (by decide)) (fun o q1 q2 => u0 o (by omega))) h.2.2.1 (by omega) (by omega)
  refine oT_N 14 rfl (oT_V rfl rfl rfl rfl (by omega) (by omega) fs (fun x σ2 h => by cases h.1) (fun v τ1 hv => ?_))
  obtain ⟨hv, v1, v2⟩ := hv
  cases hv
  have w0 : ∀ o, o ≠ 5 → o < 130 ∨ 141 < o → τ1 o = σ o := fun o q1 q2 => by rw [v1 o q2]; exact u0 o q1
  have w1 : τ1 5 0 = nI P.n := by rw [v1 5 (by decide)]; exact h.2.2.1
  have w2 : τ1 5 1 = nI M.R := by rw [v1 5 (by decide)]; exact g1
  have w3 : τ1 5 2 = nI (ocR P P.n) := by rw [v1 5 (by decide)]; exact h.2.2.2.1
  have hm1 : oCo τ1 M := oCo_ext hm (w0 2 (by decide) (by decide)) (fun o q1 q2 => w0 o (by omega) (by omega))
  show oT L (k + 1) 0 29 [some (.ref 5), some (.ref 1), some (.ref 2), some (.int (if all then 1 else 0)), none] [] τ1 _
  refine oT_N 3 rfl (oT_V rfl rfl rfl rfl (by omega) (by omega) (ot_markWanteds (all := all) hm1 w2) (fun x σ2 h => by cases h.1) (fun v τ2 hv => ?_))
  obtain ⟨hv, x1, W, x2, x3, x4⟩ := hv
  cases hv
  show oT L (k + 1) 0 35 [some (.ref 5), some (.ref 1), some (.ref 2), some (.int (if all then 1 else 0)), none] [] τ2 _
  have loop : ∀ (d r : Nat) (τ : ox_S), r + d = M.R → (∀ o, o ≠ 5 → o < 130 ∨ 173 < o → τ o = σ o) → τ 5 0 = nI P.n → τ 5 1 = nI M.R → τ 5 2 = nI (ocR P P.n) → τ 5 12 = nI (oCn (oPf M W) r) → (∀ r', r' < M.R → τ 171 r' = if W r' then 1 else 0) → (∀ r', r' < r → τ 172 r' = if oSd M r' then 1 else 0) → (∀ j, j < oCn (oPf M W) r → τ 173 j = nI (oKt (oPf M W) r j)) → (∀ r', r' < 12 → (r' = 0 ∨ 5 ≤ r') → ∀ a b, a < P.n → b < P.n → oBr τ (130 + r') a b = oGv P (oXs P 0) r' a b) → oIR P.n M (oGv P (oXs P 0)) r (fun r => W r = true ∧ oSd M r = true) (oVw τ 130) → oT L (k + 1) 0 43 [some (.ref 5), some (.ref 1), some (.ref 2), some (.int (if all then 1 else 0)), some (.int (nI r))] [] τ (fun o σ' => o = .inl none ∧ (∀ o, o ≠ 5 → o < 130 ∨ 173 < o → σ' o = σ o) ∧ ∃ W, oPp σ' 5 130 173 P M W ∧ (all = true → ∀ r, r < M.R → W r = true)) := by
    intro d
    induction d with
    | zero =>
      intro r τ hr i0 i1 i1b i1c i1d i2 i3 i4 i5 i6
      obtain rfl : r = M.R := by omega
      refine oT_N 4 rfl (oT_le M.R M.R i1b rfl (by omega) (by omega) (fun _ => ?_) (fun q => by omega))
      exact oT_Retv rfl rfl ⟨rfl, i0, W, ⟨x3, i1, i1b, i1c, i1d, i4, i6⟩, x4⟩
    | succ d ih =>
      intro r τ hr i0 i1 i1b i1c i1d i2 i3 i4 i5 i6
      have cr : (nI r).toNatClampNeg = r := nI_clamp (by omega)
      have nr : ¬ (nI r < 0 ∨ 40 ≤ (nI r).toNatClampNeg) := ox_ix (by omega) (by decide)
      have hcn := oCn_le (oPf M W) r
      refine oT_N 4 rfl (oT_le M.R r i1b rfl (by omega) (by omega) (fun q => by omega) (fun _ => ?_))
      refine oT_N 3 rfl (oT_le 12 r rfl rfl (by decide) (by omega) (fun q12 => ?_) (fun q12 => ?_))
      · obtain ⟨s1, s2, s3⟩ := m4 r q12 (by omega)
        obtain ⟨t1, t2, t3⟩ := g3 r q12 (by omega)
        have hsd := oSd_hi hMok q12 (show r < M.R by omega)
        -- from behind the store
        have cont : ∀ τ' : ox_S, (∀ o, o ≠ 172 → τ' o = τ o) → (∀ q, q ≠ r → τ' 172 q = τ 172 q) → τ' 172 r = (if oSd M r then 1 else 0) → oT L (k + 1) 0 128 [some (.ref 5), some (.ref 1), some (.ref 2), some (.int (if all then 1 else 0)), some (.int (nI r))] [] τ' (fun o σ' => o = .inl none ∧ (∀ o, o ≠ 5 → o < 130 ∨ 173 < o → σ' o = σ o) ∧ ∃ W, oPp σ' 5 130 173 P M W ∧ (all = true → ∀ r, r < M.R → W r = true)) := fun τ' y0 y1 y2 => by
          have z3 : ∀ τ2 : ox_S, (∀ q, τ2 172 q = τ' 172 q) → ∀ r', r' < r + 1 → τ2 172 r' = if oSd M r' then 1 else 0 := fun τ2 hq r' hr' => by
            rw [hq]
            by_cases e : r' = r
            · rw [e]; exact y2
            · rw [y1 r' e]; exact i3 r' (by omega)
          -- no fill
          have skip : ¬ (W r = true ∧ oSd M r = true) → ∀ τ2 : ox_S, (∀ o, o ≠ 173 → o ≠ 5 → τ2 o = τ' o) → (∀ q, q ≠ 12 → τ2 5 q = τ' 5 q) → τ2 5 12 = nI (oCn (oPf M W) (r + 1)) → (∀ j, j < oCn (oPf M W) (r + 1) → τ2 173 j = nI (oKt (oPf M W) (r + 1) j)) → oT L (k + 1) 0 189 [some (.ref 5), some (.ref 1), some (.ref 2), some (.int (if all then 1 else 0)), some (.int (nI r))] [] τ2 (fun o σ' => o = .inl none ∧ (∀ o, o ≠ 5 → o < 130 ∨ 173 < o → σ' o = σ o) ∧ ∃ W, oPp σ' 5 130 173 P M W ∧ (all = true → ∀ r, r < M.R → W r = true)) := fun hno τ2 b0 bX b12 b4 => by
            have hb : ∀ o, o < 171 → o ≠ 5 → τ2 o = τ o := fun o q1 q2 => by rw [b0 o (by omega) q2, y0 o (by omega)]
            have hrow : ∀ r', r' < 40 → oBr τ2 (130 + r') = oBr τ (130 + r') := fun r' q => by
              funext a b
              unfold oBr
              rw [hb _ (by omega) (by omega)]
            have hX : ∀ q, q ≠ 12 → τ2 5 q = τ 5 q := fun q hq => by rw [bX q hq, y0 5 (by decide)]
            have e := ih (r + 1) τ2 (by omega) (fun o q1 q2 => by rw [b0 o (by omega) q1, y0 o (by omega)]; exact i0 o q1 q2) (by rw [hX 0 (by decide)]; exact i1) (by rw [hX 1 (by decide)]; exact i1b) (by rw [hX 2 (by decide)]; exact i1c) b12 (fun r' hr' => by rw [b0 171 (by decide) (by decide), y0 171 (by decide)]; exact i2 r' hr') (z3 τ2 (fun q => by rw [b0 172 (by decide) (by decide)])) b4 (fun r' q1 q2 a b ha hb' => by rw [hrow r' (by omega)]; exact i5 r' q1 q2 a b ha hb') (fun r' hr' hw' a b ha hb' => by
              rcases Nat.lt_or_ge r' r with q | q
              · obtain ⟨j1, j2⟩ := i6 r' q hw' a b ha hb'
                unfold oVw at j1 j2 ⊢
                refine ⟨fun q2 => by rw [hrow r' (by omega)]; exact j1 q2, fun q2 => ?_⟩
                obtain ⟨n1, n2, n3⟩ := m4 r' q2 (by omega)
                rw [hrow r' (by omega), hrow (M.lf r') (by omega), hrow (M.rt r') (by omega)]
                exact j2 q2
              · obtain rfl : r' = r := by omega
                exact absurd hw' hno)
            rw [← ox_inc r] at e
            exact oT_N 2 rfl e
          have noPlan : oPf M W r = false → oT L (k + 1) 0 189 [some (.ref 5), some (.ref 1), some (.ref 2), some (.int (if all then 1 else 0)), some (.int (nI r))] [] τ' (fun o σ' => o = .inl none ∧ (∀ o, o ≠ 5 → o < 130 ∨ 173 < o → σ' o = σ o) ∧ ∃ W, oPp σ' 5 130 173 P M W ∧ (all = true → ∀ r, r < M.R → W r = true)) ∨ (W r = true ∧ oSd M r = true) := fun hf => by
            by_cases hno : W r = true ∧ oSd M r = true
            · exact Or.inr hno
            · refine Or.inl (skip hno τ' (fun _ _ _ => rfl) (fun _ _ => rfl) ?_ (fun j hj => ?_))
              · rw [y0 5 (by decide), i1d]
                simp [oCn, hf]
              · have e1 : oCn (oPf M W) (r + 1) = oCn (oPf M W) r := by simp [oCn, hf]
                rw [e1] at hj
                rw [y0 173 (by decide), i4 j hj]
                simp [oKt, hf]
          have hw118 : ∀ q, q < M.R → τ' 171 q = if W q then 1 else 0 := fun q hq => by rw [y0 171 (by decide)]; exact i2 q hq
          refine oT_N 3 rfl (oT_Z (o := 171) (n := nI r) rfl ⟨rfl, by decide⟩ nr ?_)
          rw [cr, hw118 r (by omega)]
          refine oT_N 1 rfl (oT_b (W r) rfl (fun qw => ?_) (fun qw => ?_))
          · refine oT_N 3 rfl (oT_Z (o := 171) (n := nI r) rfl ⟨rfl, by decide⟩ nr ?_)
            rw [cr, hw118 r (by omega)]
            refine oT_N 1 rfl (oT_b (W r) rfl (fun _ => ?_) (fun q => by rw [qw] at q; cases q))
            rcases noPlan (by unfold oPf; rw [qw]; simp) with e | e
            · exact e
            · rw [qw] at e
              cases e.1
          · refine oT_N 3 rfl (oT_Z (o := 172) (n := nI r) rfl ⟨rfl, by decide⟩ nr ?_)
            rw [cr, y2]
            refine oT_N 1 rfl (oT_b (oSd M r) rfl (fun qs => ?_) (fun qs => ?_))
            · have hf : oPf M W r = true := oPf_iff.mpr ⟨q12, qw, qs⟩
              refine oT_N 3 rfl (oT_Z (o := 171) (n := nI r) rfl ⟨rfl, by decide⟩ nr ?_)
              rw [cr, hw118 r (by omega)]
              refine oT_N 1 rfl (oT_b (W r) rfl (fun q => by rw [qw] at q; cases q) (fun _ => ?_))
              have e12 : τ' 5 12 = nI (oCn (oPf M W) r) := by rw [y0 5 (by decide)]; exact i1d
              refine oT_N 5 rfl (oT_Is (o := 173) (n := τ' 5 12) (x := nI r) rfl ⟨rfl, by decide⟩ (by rw [e12]; exact ox_ix (N := 40) (by omega) (by decide)) ?_)
              rw [e12, nI_clamp (by omega)]
              have e1 : oCn (oPf M W) (r + 1) = oCn (oPf M W) r + 1 := by simp [oCn, hf]
              refine oT_N 6 rfl (skip (fun q => by rw [qs] at q; cases q.2) _ (fun o q1 q2 => by rw [ox_up_ne q2, ox_up_ne q1]) (fun q hq => by rw [ox_up_at, if_neg hq, ox_up_ne (by decide)]) ?_ (fun j hj => ?_))
              · rw [ox_up_at, if_pos rfl, ox_up_ne (by decide), e12, ox_inc, e1]
              · rw [e1] at hj
                rw [ox_up_ne (by decide), ox_up_at]
                simp only [oKt]
                by_cases e : j = oCn (oPf M W) r
                · rw [if_pos e, if_pos ⟨hf, e.symm⟩]
                · rw [if_neg e, if_neg (fun q => e q.2.symm), y0 173 (by decide)]
                  exact i4 j (by omega)
            · have hf : oPf M W r = false := by unfold oPf; rw [qs]; simp
              have hm2 : oCo τ' M := oCo_ext hm (by rw [y0 2 (by decide)]; exact i0 2 (by decide) (by decide)) (fun o q1 q2 => by rw [y0 o (by omega)]; exact i0 o (by omega) (by omega))
              refine oT_N 3 rfl (oT_V rfl rfl rfl rfl (by omega) (by omega) (ot_fillMades (n := P.n) hm2 q12 (show r < M.R by omega) (by rw [y0 5 (by decide)]; exact i1) hPn (by omega) (by omega)) (fun x σ2 h => by cases h.1) (fun v τ3 hv => ?_))
              obtain ⟨hv, f1, f2⟩ := hv
              cases hv
              have hb : ∀ o, o ≠ 130 + r → o ≠ 172 → τ3 o = τ o := fun o q1 q2 => by rw [f1 o q1, y0 o q2]
              have hrow : ∀ r', r' < 40 → r' ≠ r → oBr τ3 (130 + r') = oBr τ (130 + r') := fun r' q q2 => by
                funext a b
                unfold oBr
                rw [hb _ (by omega) (by omega)]
              have hrow' : ∀ r', r' < 40 → oBr τ' (130 + r') = oBr τ (130 + r') := fun r' q => by
                funext a b
                unfold oBr
                rw [y0 _ (by omega)]
              have e := ih (r + 1) τ3 (by omega) (fun o q1 q2 => by rw [hb o (by omega) (by omega)]; exact i0 o q1 q2) (by rw [hb 5 (by omega) (by decide)]; exact i1) (by rw [hb 5 (by omega) (by decide)]; exact i1b) (by rw [hb 5 (by omega) (by decide)]; exact i1c) (by
                rw [hb 5 (by omega) (by decide), i1d]
                simp [oCn, hf]) (fun r' hr' => by rw [hb 171 (by omega) (by decide)]; exact i2 r' hr') (z3 τ3 (fun q => by rw [f1 172 (by omega)])) (fun j hj => by
                have e1 : oCn (oPf M W) (r + 1) = oCn (oPf M W) r := by simp [oCn, hf]
                rw [e1] at hj
                rw [hb 173 (by omega) (by decide), i4 j hj]
                simp [oKt, hf]) (fun r' q1 q2 a b ha hb' => by rw [hrow r' (by omega) (by omega)]; exact i5 r' q1 q2 a b ha hb') (fun r' hr' hw' a b ha hb' => by
                rcases Nat.lt_or_ge r' r with q | q
                · obtain ⟨j1, j2⟩ := i6 r' q hw' a b ha hb'
                  unfold oVw at j1 j2 ⊢
                  refine ⟨fun q2 => by rw [hrow r' (by omega) (by omega)]; exact j1 q2, fun q2 => ?_⟩
                  obtain ⟨n1, n2, n3⟩ := m4 r' q2 (by omega)
                  rw [hrow r' (by omega) (by omega), hrow (M.lf r') (by omega) (by omega), hrow (M.rt r') (by omega) (by omega)]
                  exact j2 q2
                · obtain rfl : r' = r := by omega
                  refine ⟨fun q2 => by omega, fun q2 => ?_⟩
                  unfold oVw
                  rw [hrow (M.lf r') (by omega) (by omega), hrow (M.rt r') (by omega) (by omega), ← hrow' (M.lf r') (by omega), ← hrow' (M.rt r') (by omega)]
                  exact f2 a b ha hb')
              rw [← ox_inc r] at e
              exact oT_N 3 rfl e
        refine oT_N 8 rfl (oT_I (o := 23) (n := nI r) rfl (Or.inl ⟨rfl, by decide⟩) nr ?_)
        rw [cr, i0 23 (by decide) (by decide), t2]
        refine oT_Z (o := 172) (n := nI (M.lf r)) rfl ⟨rfl, by decide⟩ (ox_ix (N := 40) (by omega) (by decide)) ?_
        rw [nI_clamp (by omega), i3 _ s2]
        have st0 : oSd M r = false → oT L (k + 1) 0 126 [some (.ref 5), some (.ref 1), some (.ref 2), some (.int (if all then 1 else 0)), some (.int (nI r))] [.int (nI r), .ref 172] τ (fun o σ' => o = .inl none ∧ (∀ o, o ≠ 5 → o < 130 ∨ 173 < o → σ' o = σ o) ∧ ∃ W, oPp σ' 5 130 173 P M W ∧ (all = true → ∀ r, r < M.R → W r = true)) := fun hs => by
          refine oT_N 1 rfl (oT_Zs (o := 172) (n := nI r) (x := if false then 1 else 0) rfl ⟨rfl, by decide⟩ nr ?_)
          rw [cr, ox_nar01]
          exact cont _ (fun o ho => ox_up_ne ho) (fun q hq => by rw [ox_up_at, if_neg hq]) (by rw [ox_up_at, if_pos rfl, hs])
        refine oT_N 1 rfl (oT_b (oSd M (M.lf r)) rfl (fun ql => ?_) (fun ql => ?_))
        · exact st0 (by rw [hsd, ql, Bool.false_and])
        · refine oT_N 5 rfl (oT_I (o := 24) (n := nI r) rfl (Or.inl ⟨rfl, by decide⟩) nr ?_)
          rw [cr, i0 24 (by decide) (by decide), t3]
          refine oT_Z (o := 172) (n := nI (M.rt r)) rfl ⟨rfl, by decide⟩ (ox_ix (N := 40) (by omega) (by decide)) ?_
          rw [nI_clamp (by omega), i3 _ s3]
          refine oT_N 1 rfl (oT_b (oSd M (M.rt r)) rfl (fun qr => ?_) (fun qr => ?_))
          · exact st0 (by rw [hsd, qr, Bool.and_false])
          · refine oT_N 2 rfl (oT_Zs (o := 172) (n := nI r) (x := if true then 1 else 0) rfl ⟨rfl, by decide⟩ nr ?_)
            rw [cr, ox_nar01]
            exact cont _ (fun o ho => ox_up_ne ho) (fun q hq => by rw [ox_up_at, if_neg hq]) (by rw [ox_up_at, if_pos rfl, hsd, ql, qr]; rfl)
      · have hf : oPf M W r = false := by unfold oPf; rw [decide_eq_false (by omega)]; rfl
        have step : ∀ t : Bool, t = oSd M r → oT L (k + 1) 0 83 [some (.ref 5), some (.ref 1), some (.ref 2), some (.int (if all then 1 else 0)), some (.int (nI r))] [] (ox_up τ 172 r (if t then 1 else 0)) (fun o σ' => o = .inl none ∧ (∀ o, o ≠ 5 → o < 130 ∨ 173 < o → σ' o = σ o) ∧ ∃ W, oPp σ' 5 130 173 P M W ∧ (all = true → ∀ r, r < M.R → W r = true)) := fun t ht => by
          have hrow : ∀ r', r' < 40 → oBr (ox_up τ 172 r (if t then 1 else 0)) (130 + r') = oBr τ (130 + r') := fun r' q => by
            funext a b
            unfold oBr
            rw [ox_up_ne (by omega)]
          have e := ih (r + 1) (ox_up τ 172 r (if t then 1 else 0)) (by omega) (fun o q1 q2 => by rw [ox_up_ne (by omega)]; exact i0 o q1 q2) (by rw [ox_up_ne (by decide)]; exact i1) (by rw [ox_up_ne (by decide)]; exact i1b) (by rw [ox_up_ne (by decide)]; exact i1c) (by
            rw [ox_up_ne (by decide), i1d]
            simp [oCn, hf]) (fun r' hr' => by rw [ox_up_ne (by decide)]; exact i2 r' hr') (fun r' hr' => by
            rw [ox_up_at]
            by_cases e : r' = r
            · rw [if_pos e, e, ht]
            · rw [if_neg e]; exact i3 r' (by omega)) (fun j hj => by
            have e1 : oCn (oPf M W) (r + 1) = oCn (oPf M W) r := by simp [oCn, hf]
            rw [e1] at hj
            rw [ox_up_ne (by decide), i4 j hj]
            simp [oKt, hf]) (fun r' q1 q2 a b ha hb' => by rw [hrow r' (by omega)]; exact i5 r' q1 q2 a b ha hb') (fun r' hr' hw' a b ha hb' => by
            refine ⟨fun q2 => ?_, fun q2 => by omega⟩
            unfold oVw
            rw [hrow r' (by omega)]
            have hs := hw'.2
            rw [oSd_lo q2, decide_eq_true_eq] at hs
            exact i5 r' q2 (by omega) a b ha hb')
          rw [← ox_inc r] at e
          exact oT_N 3 rfl e
        refine oT_N 6 rfl (oT_lt r 1 rfl rfl (by omega) (by decide) (fun q => ?_) (fun q => ?_))
        · refine oT_N 2 rfl (oT_Zs (o := 172) (n := nI r) (x := if true then 1 else 0) rfl ⟨rfl, by decide⟩ nr ?_)
          rw [cr, ox_nar01]
          exact step true (by rw [oSd_lo q12, decide_eq_true (Or.inl q)])
        · refine oT_N 3 rfl (oT_le r 4 rfl rfl (by omega) (by decide) (fun q2 => ?_) (fun q2 => ?_))
          · refine oT_N 1 rfl (oT_Zs (o := 172) (n := nI r) (x := if false then 1 else 0) rfl ⟨rfl, by decide⟩ nr ?_)
            rw [cr, ox_nar01]
            exact step false (by rw [oSd_lo q12, decide_eq_false (by omega)])
          · refine oT_N 2 rfl (oT_Zs (o := 172) (n := nI r) (x := if true then 1 else 0) rfl ⟨rfl, by decide⟩ nr ?_)
            rw [cr, ox_nar01]
            exact step true (by rw [oSd_lo q12, decide_eq_true (Or.inr q2)])
  refine oT_N 5 rfl (loop M.R 0 _ (by omega) (fun o q1 q2 => ?_) ?_ ?_ ?_ rfl (fun r' hr' => ?_) (fun r' hr' => by omega) (fun j hj => absurd (show j < 0 from hj) (by omega)) (fun r' q1 q2 a b ha hb => ?_) (fun r' hr' => by omega))
  · rw [ox_up_ne q1, x1 o (by omega)]
    exact w0 o q1 (by omega)
  · rw [ox_up_at, if_neg (by decide), x1 5 (by decide)]; exact w1
  · rw [ox_up_at, if_neg (by decide), x1 5 (by decide)]; exact w2
  · rw [ox_up_at, if_neg (by decide), x1 5 (by decide)]; exact w3
  · rw [ox_up_ne (by decide)]; exact x2 r' hr'
  · unfold oBr
    rw [ox_up_ne (by omega), x1 _ (by omega)]
    exact (v2 r' q1 q2 a b ha hb).trans (oGv_st q2)
end OYGs
