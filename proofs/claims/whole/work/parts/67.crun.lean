theorem oUp (v : Nat → Nat → Nat → Bool) (R : Nat) (g : Nat → Nat → Bool) : ∃ v' : Nat → Nat → Nat → Bool, v' R = g ∧ ∀ y, y ≠ R → v' y = v y := ⟨fun r => if r = R then g else v r, if_pos rfl, fun _ hy => if_neg hy⟩
theorem oIR_ex {n : Nat} {M : oMo} {gv : Nat → Nat → Nat → Bool} (hM : M.ok) : ∀ R, R ≤ M.R → ∃ v, oIR n M gv R (fun _ => True) v
  | 0, _ => ⟨fun _ _ _ => false, fun r hr => absurd hr (Nat.not_lt_zero r)⟩
  | R + 1, h => by
    obtain ⟨v, hv⟩ := oIR_ex (n := n) (gv := gv) hM R (by omega)
    have hex : ∃ v' : Nat → Nat → Nat → Bool, (∀ y, y ≠ R → v' y = v y) ∧ ∀ a b, (R < 12 → v' R a b = gv R a b) ∧ (12 ≤ R → (v' R a b = true ↔ oHw n (M.hw R) (v (M.lf R)) (v (M.rt R)) a b)) := by
      by_cases q : R < 12
      · obtain ⟨v', e1, e2⟩ := oUp v R (gv R)
        exact ⟨v', e2, fun a b => ⟨fun _ => by rw [e1], fun q2 => by omega⟩⟩
      · obtain ⟨v', e1, e2⟩ := oUp v R (fun a b => @decide (oHw n (M.hw R) (v (M.lf R)) (v (M.rt R)) a b) (Classical.propDecidable _))
        refine ⟨v', e2, fun a b => ⟨fun q2 => absurd q2 q, fun _ => ?_⟩⟩
        rw [e1]
        exact @decide_eq_true_iff _ (Classical.propDecidable _)
    obtain ⟨v', hA, hB⟩ := hex
    refine ⟨v', fun r hr _ a b ha hb => ?_⟩
    rcases Nat.lt_or_ge r R with q | q
    · obtain ⟨h1, h2⟩ := hv r q trivial a b ha hb
      rw [hA r (by omega)]
      refine ⟨h1, fun q2 => ?_⟩
      obtain ⟨m1, m2, m3⟩ := hM.2.2.2.1 r q2 (by omega)
      rw [hA (M.lf r) (by omega), hA (M.rt r) (by omega)]
      exact h2 q2
    · obtain rfl : r = R := by omega
      refine ⟨(hB a b).1, fun q2 => ?_⟩
      obtain ⟨m1, m2, m3⟩ := hM.2.2.2.1 r q2 (by omega)
      rw [hA (M.lf r) (by omega), hA (M.rt r) (by omega)]
      exact (hB a b).2 q2
/-- what breaks a rule, by what rules need alone -/
theorem oAw_w {P : oPr} {M : oMo} {al : Nat → Bool} {W : Nat → Bool} {x : Nat} {v : Nat → Nat → Nat → Bool} {b : Int32} (hM : M.ok) (hal : oAw P M al) (hW : oWt M W) (hv : oIR P.n M (oGv P (oXs P x)) M.R (fun r => W r = true) v) (hb : oBk P.n M v b) : b < 0 ↔ al x = true := by
  obtain ⟨v', hv'⟩ := oIR_ex (n := P.n) (gv := oGv P (oXs P x)) hM M.R (Nat.le_refl _)
  have e := oIR_one (W := fun r => W r = true) (W' := fun _ => True) hM (Nat.le_refl _) (fun r q1 q2 q3 => hW.2 r q1 q2 q3) (fun _ _ => trivial) hv hv'
  rw [oBk_neg hM.2.2.1 hb, hal x v' hv']
  have key : ∀ i, i < M.Q → (oRg P.n (v (M.rl i)) ↔ oRg P.n (v' (M.rl i))) := fun i hi => oRg_ext (fun a c ha hc => e (M.rl i) (hM.2.2.2.2 i hi) (hW.1 i hi) a c ha hc)
  exact ⟨fun q i hi q2 => q i hi ((key i hi).mpr q2), fun q i hi q2 => q i hi ((key i hi).mp q2)⟩
section OYN
variable {L k : Nat} {σ : ox_S} {P : oPr} {M : oMo}
set_option maxHeartbeats 2000000 in
theorem ot_run {al : Nat → Bool} (h : oC σ P) (hm : oCo σ M) (hal : oAw P M al) (hk : 6 ≤ k) (hk9 : k ≤ 9) : oT L k 38 0 [some (.ref 0), none, none] [] σ (fun o σ' => if oNx P ≤ 5000 then (∃ T, o = .inl (some (.int (nI T.m))) ∧ oCL σ' T ∧ oLm (ocR P P.n) al (oVc P) (oNx P) T.m T.V T.c T.f ∧ T.N = oNx P ∧ T.A = oCn al (oNx P) ∧ T.R = ocR P P.n) ∧ (∀ o, o ≠ 3 → o ≠ 4 → o < 28 ∨ (42 < o ∧ o < 68) ∨ 120 < o → σ' o = σ o) else o = .inr 0 ∧ σ' = σ) := by
  obtain ⟨k, rfl⟩ : ∃ k', k = k' + 1 := ⟨k - 1, by omega⟩
  have hP := h.1
  have hMok := hm.1
  have hn := hP.2.1
  have ce := ot_countExecutions (L := L) (k := k) h (by omega) (by omega)
  refine oT_N 2 rfl (oT_V rfl rfl rfl rfl (by omega) (by omega) ce (fun x σ2 h => by obtain ⟨v, h, -⟩ := h; cases h) (fun w σ2 hv => ?_))
  obtain ⟨v, hv, hA, rfl⟩ := hv
  cases hv
  obtain ⟨A1, A2, A3⟩ := hA
  refine oT_N 4 rfl (oT_le v 5000 rfl rfl (by omega) (by decide) (fun q => ?_) (fun q => ?_))
  · have ev : v = oNx P := A1 q
    subst ev
    simp only [if_pos q]
    refine oT_N 5 rfl (oT_V rfl rfl rfl rfl (by omega) (by omega) (ot_begin (al := al) h q (by omega) (by omega)) (fun x σ2 h => by cases h.1) (fun w τ1 hv => ?_))
    obtain ⟨hv, b1, C, K, b2⟩ := hv
    cases hv
    have hC1 : oC τ1 P := oC_ext h (b1 1 (by decide) (by decide)) (fun o q1 q2 => b1 o (by omega) (by omega))
    have hM1 : oCo τ1 M := oCo_ext hm (b1 2 (by decide) (by decide)) (fun o q1 q2 => b1 o (by omega) (by omega))
    refine oT_N 7 rfl (oT_V rfl rfl rfl rfl (by omega) (by omega) (ot_preparet (all := false) hC1 hM1 (by omega) (by omega)) (fun x σ2 h => by cases h.1) (fun w τ2 hv => ?_))
    obtain ⟨hv, c1, W, c2, -⟩ := hv
    cases hv
    have loop : ∀ (d X : Nat) (τ : ox_S), X + d = oNx P → (∀ o, o ≠ 3 → o ≠ 4 → o < 28 ∨ (42 < o ∧ o < 68) ∨ 120 < o → τ o = σ2 o) → oPp τ 4 77 120 P M W → oLc τ P al C K X → oT L (k + 1) 38 55 [some (.ref 0), some (.int (nI (oNx P))), some (.int (nI X))] [] τ (fun o σ' => (∃ T, o = .inl (some (.int (nI T.m))) ∧ oCL σ' T ∧ oLm (ocR P P.n) al (oVc P) (oNx P) T.m T.V T.c T.f ∧ T.N = oNx P ∧ T.A = oCn al (oNx P) ∧ T.R = ocR P P.n) ∧ (∀ o, o ≠ 3 → o ≠ 4 → o < 28 ∨ (42 < o ∧ o < 68) ∨ 120 < o → σ' o = σ2 o)) := by
      intro d
      induction d with
      | zero =>
        intro X τ hX t1 t2 t3
        obtain rfl : X = oNx P := by omega
        refine oT_N 3 rfl (oT_le (oNx P) (oNx P) rfl rfl (by omega) (by omega) (fun _ => ?_) (fun q => by omega))
        refine oT_N 2 rfl (oT_V rfl rfl rfl rfl (by omega) (by omega) (ot_finish hP q t3) (fun x σ2 h => by cases h.1) (fun w τ3 hv => ?_))
        obtain ⟨hv, d1, T, d2, d3⟩ := hv
        cases hv
        exact oT_N 3 rfl (oT_Ret rfl rfl rfl ⟨⟨T, ox_o d2.2.2.1, d2, d3⟩, fun o q1 q2 q3 => by rw [d1 o q1 (by omega)]; exact t1 o q1 q2 q3⟩)
      | succ d ih =>
        intro X τ hX t1 t2 t3
        have hC : oC τ P := oC_ext h (t1 1 (by decide) (by decide) (by decide)) (fun o q1 q2 => t1 o (by omega) (by omega) (by omega))
        have hM : oCo τ M := oCo_ext hm (t1 2 (by decide) (by decide) (by decide)) (fun o q1 q2 => t1 o (by omega) (by omega) (by omega))
        refine oT_N 3 rfl (oT_le (oNx P) X rfl rfl (by omega) (by omega) (fun q => by omega) (fun _ => ?_))
        refine oT_N 7 rfl (oT_V rfl rfl rfl rfl (by omega) (by omega) (ot_chooset (x := X) hC hM t2 (by omega) (by omega) (by omega)) (fun x σ2 h => by cases h.1) (fun w τ3 hv => ?_))
        obtain ⟨hv, e1, e2, e3, e4⟩ := hv
        cases hv
        have hM3 : oCo τ3 M := oCo_ext hM (e1 2 (by decide)) (fun o q1 q2 => e1 o (by omega))
        have l3 : oLc τ3 P al C K X := oLc_ext t3 (e1 3 (by decide)) (fun o q1 q2 => e1 o (by omega))
        refine oT_N 4 rfl (oT_V rfl rfl rfl rfl (by omega) (by omega) (ot_firstBrokent (n := P.n) hM3 e2.2.1 hn (by omega) (by omega)) (fun x σ2 h => by obtain ⟨-, b, h, -⟩ := h; cases h) (fun w τ4 hv => ?_))
        obtain ⟨rfl, b, hv, hb⟩ := hv
        cases hv
        have hbal := oAw_w hMok hal e2.1 e4 hb
        refine oT_N 2 rfl (oT_If (fun (qb : b = -1) => ?_) (fun (qb : ¬ b = -1) => ?_))
        · have ha : al X = true := hbal.mp (by rw [qb]; decide)
          refine oT_N 6 rfl (oT_V rfl rfl rfl rfl (by omega) (by omega) (ot_addAllowed hP q (by omega) ha l3 (fun i hi => (e3.1 i hi).1)) (fun x σ2 h => by cases h.1) (fun w τ5 hv => ?_))
          obtain ⟨hv, f1, f2⟩ := hv
          cases hv
          have pp : oPp τ5 4 77 120 P M W := by
            obtain ⟨g1, g2, g3, g4, g5, g6, g7⟩ := e2
            have hv : ∀ r, r < M.R → oVw τ5 77 r = oVw τ4 77 r := fun r hr => by
              funext a c
              unfold oVw oBr
              rw [f1 _ (by omega) (by omega)]
            refine ⟨g1, by rw [f1 4 (by decide) (by decide)]; exact g2, by rw [f1 4 (by decide) (by decide)]; exact g3, by rw [f1 4 (by decide) (by decide)]; exact g4, by rw [f1 4 (by decide) (by decide)]; exact g5, by rw [f1 120 (by decide) (by decide)]; exact g6, ?_⟩
            exact oIR_ext hMok (Nat.le_refl _) (fun r q1 q2 q3 => oPf_dn hMok g1 q1 q2 q3.1 q3.2) (fun r q1 q2 a c _ _ => by rw [hv r q1]) g7
          have e := ih (X + 1) τ5 (by omega) (fun o q1 q2 q3 => by rw [f1 o q1 (by omega), e1 o (by omega)]; exact t1 o q1 q2 q3) pp f2
          rw [← ox_inc X] at e
          exact oT_N 2 rfl e
        · have ha : al X = false := by
            cases e : al X with
            | false => rfl
            | true =>
              have h9 := hbal.mpr e
              rcases hb with ⟨h1, h2⟩ | ⟨i, h1, h2, h3, h4⟩
              · exact absurd h1 qb
              · rw [h2] at h9
                exact absurd h9 (nI_pos (by have := hMok.2.2.1; omega))
          have e := ih (X + 1) τ4 (by omega) (fun o q1 q2 q3 => by rw [e1 o (by omega)]; exact t1 o q1 q2 q3) e2 (oLc_skip l3 ha)
          rw [← ox_inc X] at e
          exact oT_N 2 rfl e
    refine oT_N 2 rfl (loop (oNx P) 0 τ2 (by omega) (fun o q1 q2 q3 => by rw [c1 o q2 (by omega)]; exact b1 o q1 (by omega)) c2 (oLc_ext b2 (c1 3 (by decide) (by decide)) (fun o q1 q2 => c1 o (by omega) (by omega))))
  · have hN : ¬ oNx P ≤ 5000 := by have := A2 q; omega
    simp only [if_neg hN]
    exact oT_T rfl (by decide) (by omega) (by omega) ⟨rfl, rfl⟩
set_option maxHeartbeats 2000000 in
theorem ot_look {e : Int32} (h : oC σ P) (hm : oCo σ M) (hk : 6 ≤ k) (hk9 : k ≤ 9) : oT L k 41 0 [some (.ref 0), some (.int e), none, none] [] σ (fun o σ' => if oNx P ≤ 5000 then (if 0 ≤ e ∧ e < nI (oNx P) then (∃ x b v m g, e = nI x ∧ x < oNx P ∧ o = .inl (some (.int b)) ∧ oLk P M x b v m g ∧ oCS σ' (P.n, ocR P P.n, M.R, oSc P x, oW P, oOd P x, v, m, g)) ∧ (∀ o, o < 121 ∨ 173 < o → o ≠ 5 → o ≠ 6 → o ≠ 26 → o ≠ 27 → σ' o = σ o) else o = .inr 2 ∧ σ' = σ) else o = .inr 0 ∧ σ' = σ) := by
  obtain ⟨k, rfl⟩ : ∃ k', k = k' + 1 := ⟨k - 1, by omega⟩
  have hP := h.1
  have hMok := hm.1
  have hn := hP.2.1
  have hR12 := ocR_le P P.n
  have ce := ot_countExecutions (L := L) (k := k) h (by omega) (by omega)
  refine oT_N 2 rfl (oT_V rfl rfl rfl rfl (by omega) (by omega) ce (fun x σ2 h => by obtain ⟨v, h, -⟩ := h; cases h) (fun w σ2 hv => ?_))
  obtain ⟨v, hv, hA, rfl⟩ := hv
  cases hv
  obtain ⟨A1, A2, A3⟩ := hA
  refine oT_N 4 rfl (oT_le v 5000 rfl rfl (by omega) (by decide) (fun q => ?_) (fun q => ?_))
  · have ev : v = oNx P := A1 q
    subst ev
    simp only [if_pos q]
    refine oT_N 2 rfl (oT_S rfl rfl rfl (by omega) (by omega) ot_isBelow' (fun x σ2 h => by cases h.1) (fun v σ3 hv => ?_))
    obtain ⟨hv, rfl⟩ := hv
    cases hv
    refine oT_N 1 rfl (oT_if1 (fun q1 => ?_) (fun q1 => ?_))
    · simp only [if_neg q1]
      exact oT_T rfl (by decide) (by omega) (by omega) ⟨rfl, rfl⟩
    · simp only [if_pos q1]
      obtain ⟨ex, lx⟩ := ox_natlt q1.1 q1.2 (by omega)
      generalize e.toNatClampNeg = x at ex lx
      subst ex
      refine oT_N 7 rfl (oT_V rfl rfl rfl rfl (by omega) (by omega) (ot_prepares (all := true) h hm (by omega) (by omega)) (fun x σ2 h => by cases h.1) (fun w τ2 hv => ?_))
      obtain ⟨hv, c1, W, c2, c3⟩ := hv
      cases hv
      have hC : oC τ2 P := oC_ext h (c1 1 (by decide) (by decide)) (fun o q1 q2 => c1 o (by omega) (by omega))
      have hM : oCo τ2 M := oCo_ext hm (c1 2 (by decide) (by decide)) (fun o q1 q2 => c1 o (by omega) (by omega))
      refine oT_N 7 rfl (oT_V rfl rfl rfl rfl (by omega) (by omega) (ot_chooses (x := x) hC hM c2 (by omega) (by omega) (by omega)) (fun x σ2 h => by cases h.1) (fun w τ3 hv => ?_))
      obtain ⟨hv, e1, e2, e3, e4⟩ := hv
      cases hv
      have hM3 : oCo τ3 M := oCo_ext hM (e1 2 (by decide)) (fun o q1 q2 => e1 o (by omega))
      refine oT_N 4 rfl (oT_V rfl rfl rfl rfl (by omega) (by omega) (ot_firstBrokens (n := P.n) hM3 e2.2.1 hn (by omega) (by omega)) (fun x σ2 h => by obtain ⟨-, b, h, -⟩ := h; cases h) (fun w τ4 hv => ?_))
      obtain ⟨rfl, b, hv, hb⟩ := hv
      cases hv
      have hrv : oRv P M x (fun _ => True) (oVw τ4 130) := fun r hr _ => e4 r hr (c3 rfl r hr)
      have hfr : ∀ o, o < 121 ∨ 173 < o → o ≠ 5 → τ4 o = σ3 o := fun o q1 q2 => by rw [e1 o (by omega), c1 o q2 (by omega)]
      -- what is seen
      have seen : ∀ (τ5 : ox_S) (m : Nat) (g : Nat → Nat), (∀ o, o ≠ 6 → o ≠ 26 → o ≠ 27 → τ5 o = τ4 o) → m ≤ 12 → τ5 6 0 = nI m → (∀ i, i < m → τ5 26 i = nI (g i)) → oCS τ5 (P.n, ocR P P.n, M.R, oSc P x, oW P, oOd P x, oVw τ4 130, m, g) := fun τ5 m g s1 s2 s3 s4 => by
        refine ⟨⟨hn, by show ocR P P.n ≤ 12; omega, hMok.2.1, fun p _ => Nat.le_trans (ocW_le P p P.n) hn, s2⟩, ?_, ?_, ?_, fun i hi => ?_, fun p hp => ?_, fun p i hp hi => ?_, fun r a c hr ha hc => ?_, s3, s4⟩
        · rw [s1 5 (by decide) (by decide) (by decide)]; exact e2.2.1
        · rw [s1 5 (by decide) (by decide) (by decide)]; exact e2.2.2.2.1
        · rw [s1 5 (by decide) (by decide) (by decide)]; exact e2.2.2.1
        · rw [s1 122 (by decide) (by decide) (by decide)]; exact (e3.1 i hi).2
        · rw [s1 123 (by decide) (by decide) (by decide)]; exact e3.2.1 p hp
        · rw [s1 (125 + p) (by omega) (by omega) (by omega)]; exact e3.2.2 p hp i hi
        · unfold oBr
          rw [s1 (130 + r) (by omega) (by omega) (by omega)]
          rfl
      rcases hb with ⟨q2, q3⟩ | ⟨i, q2, q3, q4, q5⟩
      · subst q2
        refine oT_N 4 rfl (oT_If (fun _ => ?_) (fun q => absurd (show (-1 : Int32) = Int32.ofInt (-1) by decide) q))
        refine oT_N (σ' := ox_up τ4 6 0 0) 6 rfl (oT_Ret rfl rfl rfl ⟨⟨x, -1, oVw τ4 130, 0, fun _ => 0, rfl, lx, rfl, ⟨hrv, Or.inl ⟨rfl, q3⟩, fun _ => rfl, fun i hi q => absurd (show nI i < 0 by rw [← q]; decide) (nI_pos (by have := hMok.2.2.1; omega))⟩, seen _ 0 _ (fun o q1 _ _ => ox_up_ne q1) (by omega) (by rw [ox_up_at, if_pos rfl]; rfl) (fun i hi => by omega)⟩, fun o q1 q2 q3 _ _ => by rw [ox_up_ne q3]; exact hfr o q1 q2⟩)
      · subst q3
        have hQ8 := hMok.2.2.1
        have hrl := hMok.2.2.2.2 i q2
        have hR40 := hMok.2.1
        have hb0 : ¬ nI i < 0 := nI_pos (by omega)
        have rr := (oRw_77 (M.rl i) (by omega)).2
        refine oT_N 4 rfl (oT_If (fun (q : nI i = -1) => absurd (show nI i < 0 by rw [q]; decide) hb0) (fun _ => ?_))
        refine oT_N 9 rfl (oT_I (o := 25) (n := nI i) rfl (Or.inl ⟨rfl, by decide⟩) (ox_ix (N := 8) (by omega) (by decide)) ?_)
        rw [nI_clamp (show i < 2 ^ 31 by omega), hM3.2.2.2.2 i q2]
        refine oT_A (o := 129) (n := nI (M.rl i)) rfl ⟨rfl, by decide⟩ (ox_ix (N := 40) (by omega) (by decide)) ?_
        rw [nI_clamp (by omega)]
        refine oT_N 3 rfl (oT_V (PostC := fun o σ' => o = .inl none ∧ (∀ o, o ≠ 6 → o ≠ 26 → o ≠ 27 → σ' o = τ4 o) ∧ ∃ m g, σ' 6 0 = nI m ∧ oSh P.n (oBr τ4 (130 + M.rl i)) m ∧ (1 ≤ m → oWk P.n (oBr τ4 (130 + M.rl i)) m g) ∧ ∀ i, i < m → σ' 26 i = nI (g i)) rfl rfl rfl rfl (by omega) (by omega) (by
          have e9 := ot_find (L := L) (k := k) (σ := τ4) (n := P.n) rr (by omega) (by omega) (by omega) hn (by omega) (by omega)
          rw [← e2.2.1] at e9
          exact e9) (fun x σ2 h => by cases h.1) (fun w τ5 hv => ?_))
        obtain ⟨hv, f1, m, g, f2, f3, f4, f5⟩ := hv
        cases hv
        have hm1 : 1 ≤ m := (oSh_rg f3).mpr q4
        have hmn : m ≤ P.n := by rcases f3 with q | q <;> omega
        refine oT_N 1 rfl (oT_Ret rfl rfl rfl ⟨⟨x, nI i, oVw τ4 130, m, g, rfl, lx, rfl, ⟨hrv, Or.inr ⟨i, q2, rfl, q4, q5⟩, fun q => absurd q hb0, fun i' hi' q => ?_⟩, seen τ5 m g f1 (by omega) f2 f5⟩, fun o q1 q2 q3 q4 q5 => by rw [f1 o q3 q4 q5]; exact hfr o q1 q2⟩)
        have e9 : i = i' := (nI_eq (by omega) (by omega)).mp q
        subst e9
        exact ⟨hm1, f3, f4 hm1⟩
  · have hN : ¬ oNx P ≤ 5000 := by have := A2 q; omega
    simp only [if_neg hN]
    exact oT_T rfl (by decide) (by omega) (by omega) ⟨rfl, rfl⟩
end OYN
