/-- looks that show the same -/
def oSq (S S' : oSe) : Prop := S.E = S'.E ∧ S.R = S'.R ∧ S.N = S'.N ∧ (∀ i, i < S.R → S.sc i = S'.sc i) ∧ (∀ p, p < 4 → S.W p = S'.W p) ∧ (∀ p i, p < 4 → i < S.W p → S.od p i = S'.od p i) ∧ (∀ r a b, r < S.N → a < S.E → b < S.E → S.v r a b = S'.v r a b) ∧ S.m = S'.m ∧ ∀ i, i < S.m → S.g i = S'.g i
theorem oCS_le {σ : ox_S} {S S' : oSe} (h : oCS σ S) (e : oSq S S') : oCS σ S' := by
  obtain ⟨⟨b1, b2, b3, b4, b5⟩, a2, a3, a4, a5, a6, a7, a8, a9, a10⟩ := h
  obtain ⟨e1, e2, e3, e4, e5, e6, e7, e8, e9⟩ := e
  refine ⟨⟨by rw [← e1]; exact b1, by rw [← e2]; exact b2, by rw [← e3]; exact b3, fun p hp => by rw [← e5 p hp]; exact b4 p hp, by rw [← e8]; exact b5⟩, by rw [← e1]; exact a2, by rw [← e2]; exact a3, by rw [← e3]; exact a4, fun i hi => ?_, fun p hp => by rw [← e5 p hp]; exact a6 p hp, fun p i hp hi => ?_, fun r a b hr ha hb => ?_, by rw [← e8]; exact a9, fun i hi => ?_⟩
  · rw [← e2] at hi
    rw [← e4 i hi]; exact a5 i hi
  · rw [← e5 p hp] at hi
    rw [← e6 p i hp hi]; exact a7 p i hp hi
  · rw [← e3] at hr
    rw [← e1] at ha hb
    rw [← e7 r a b hr ha hb]; exact a8 r a b hr ha hb
  · rw [← e8] at hi
    rw [← e9 i hi]; exact a10 i hi
theorem oSh_ext {n m : Nat} {f g : Nat → Nat → Bool} (h : ∀ a b, a < n → b < n → f a b = g a b) (q : oSh n f m) : oSh n g m := by
  have hx : ∀ j a b, a < n → b < n → (oPt n f j a b ↔ oPt n g j a b) := fun j a b ha hb => ⟨oPt_ext h j a b ha hb, oPt_ext (fun a b ha hb => (h a b ha hb).symm) j a b ha hb⟩
  rcases q with ⟨h1, h2⟩ | ⟨h1, h2, ⟨a, h3, h4⟩, h5⟩
  · exact Or.inl ⟨h1, fun j q1 q2 a ha q3 => h2 j q1 q2 a ha ((hx j a a ha ha).mpr q3)⟩
  · exact Or.inr ⟨h1, h2, ⟨a, h3, (hx m a a h3 h3).mp h4⟩, fun j q1 q2 a ha q3 => h5 j q1 q2 a ha ((hx j a a ha ha).mpr q3)⟩
/-- the first broken rule is one -/
theorem oBk_one {n : Nat} {M : oMo} {v v' : Nat → Nat → Nat → Bool} {b b' : Int32} (hM : M.ok) (he : ∀ r, r < M.R → ∀ a c, a < n → c < n → v r a c = v' r a c) (h : oBk n M v b) (h' : oBk n M v' b') : b = b' := by
  have key : ∀ i, i < M.Q → (oRg n (v (M.rl i)) ↔ oRg n (v' (M.rl i))) := fun i hi => oRg_ext (fun a c ha hc => he (M.rl i) (hM.2.2.2.2 i hi) a c ha hc)
  rcases h with ⟨h1, h2⟩ | ⟨i, h1, h2, h3, h4⟩ <;> rcases h' with ⟨g1, g2⟩ | ⟨j, g1, g2, g3, g4⟩
  · rw [h1, g1]
  · exact absurd ((key j g1).mpr g3) (h2 j g1)
  · exact absurd ((key i h1).mp h3) (g2 i h1)
  · rcases Nat.lt_trichotomy i j with q | q | q
    · exact absurd ((key i h1).mp h3) (g4 i q)
    · rw [h2, g2, q]
    · exact absurd ((key j g1).mpr g3) (h4 j q)
theorem oLk_one {P : oPr} {M : oMo} {x m m' : Nat} {b b' : Int32} {v v' : Nat → Nat → Nat → Bool} {g g' : Nat → Nat} (hM : M.ok) (h : oLk P M x b v m g) (h' : oLk P M x b' v' m' g') : b = b' ∧ (∀ r a c, r < M.R → a < P.n → c < P.n → v r a c = v' r a c) ∧ m = m' ∧ ∀ i, i < m → g i = g' i := by
  obtain ⟨a1, a2, a3, a4⟩ := h
  obtain ⟨b1, b2, b3, b4⟩ := h'
  have ev := oIR_one (W := fun _ => True) (W' := fun _ => True) hM (Nat.le_refl _) (fun _ _ _ _ => ⟨trivial, trivial⟩) (fun _ _ => trivial) a1 b1
  have ev' : ∀ r, r < M.R → ∀ a c, a < P.n → c < P.n → v r a c = v' r a c := fun r hr a c ha hc => ev r hr trivial a c ha hc
  have eb := oBk_one hM ev' a2 b2
  subst eb
  refine ⟨rfl, fun r a c hr ha hc => ev' r hr a c ha hc, ?_⟩
  rcases id a2 with ⟨h1, -⟩ | ⟨i, h1, h2, -, -⟩
  · have hneg : b < 0 := by rw [h1]; decide
    rw [a3 hneg, b3 hneg]
    exact ⟨rfl, fun i hi => by omega⟩
  · obtain ⟨c1, c2, c3⟩ := a4 i h1 h2
    obtain ⟨d1, d2, d3⟩ := b4 i h1 h2
    have hrl := hM.2.2.2.2 i h1
    have em : m = m' := oSh_one (oSh_ext (ev' _ hrl) c2) d2
    subst em
    exact ⟨rfl, oWk_one (ev' _ hrl) c3 d3⟩
section OZD
variable {σ τ : ox_S} {P P' : oPr} {M M' : oMo} {T T' : oLs} {S S' : oSe} {L : Nat}
theorem oq_run (hc : oKc σ P M T S) (hr : oKr σ P M T S) : oOp L 38 81 σ [] 2 2 (fun _ => 1) (oClv (fun x => x = 0)) := by
  obtain ⟨al, hal⟩ := oAw_ex P M hc.2.1.1
  have hP := hc.1.1
  refine ⟨_, ot_run hc.1 hc.2.1 hal (by decide) (by decide), fun o σ' q => ?_, fun o1 σ1 τ q h2 => ?_⟩
  · by_cases g : oNx P ≤ 5000
    · rw [if_pos g] at q
      obtain ⟨⟨T', q1, -⟩, q2⟩ := q
      exact ⟨Or.inl ⟨_, q1⟩, q2 174 (by decide) (by decide) (by decide)⟩
    · rw [if_neg g] at q
      exact ⟨Or.inr ⟨_, q.1, rfl⟩, by rw [q.2]⟩
  · by_cases g : oNx P ≤ 5000
    · rw [if_pos g] at q
      obtain ⟨⟨T', rfl, q2, q3, q4, q5, q6⟩, q7⟩ := q
      have hr' := oKr_c hr (fun o ho => q7 o (by omega) (by omega) (by omega)) h2
      have hc' : oKc σ1 P M T' S := ⟨oC_ext hc.1 (q7 1 (by decide) (by decide) (by decide)) (fun o p1 p2 => q7 o (by omega) (by omega) (by omega)), oCo_ext hc.2.1 (q7 2 (by decide) (by decide) (by decide)) (fun o p1 p2 => q7 o (by omega) (by omega) (by omega)), q2, oCS_ext hc.2.2.2 (q7 5 (by decide) (by decide) (by decide)) (q7 6 (by decide) (by decide) (by decide)) (q7 26 (by decide) (by decide) (by decide)) (fun o p1 p2 => q7 o (by omega) (by omega) (by omega))⟩
      refine (ot_mrun hr'.1 hr'.2.1 hr'.2.2.1 hr'.2.2.2.1 hal (by decide) (by decide)).mono (fun o σ2 m => ?_)
      rw [if_pos g] at m
      obtain ⟨m1, ⟨⟨n1, n2, n3, n4⟩, m2, ⟨mm, ρ, V, c, f, l1, l2, l3, l4⟩, m4, m5, m6⟩⟩ := m
      obtain ⟨em, ek⟩ := oLm_one q3 l1
      have hle : oLe T' (mm, V, c, f, oNx P, oCn al (oNx P), ocR P P.n) := ⟨em, q4, q5, q6, fun k hk => by
        obtain ⟨k1, k2, k3⟩ := ek k hk
        exact ⟨fun i hi => k1 i (by rw [← q6]; exact hi), k2, k3⟩⟩
      have hR12 : ocR P P.n ≤ 12 := Nat.le_trans (ocR_le P P.n) hP.2.1
      refine ⟨σ2 7 20, m1, oAg_v m2 (by rw [l3, em]), n1 8 (by decide), P, M, (mm, V, c, f, oNx P, oCn al (oNx P), ocR P P.n), S, ?_, ?_⟩
      · have hk2 := oKc_ext (oKc_c hc' h2) (τ := σ2) (fun o ho => n1 o (by omega))
        exact ⟨hk2.1, hk2.2.1, oCL_le hk2.2.2.1 hle, hk2.2.2.2⟩
      · obtain ⟨a1, a2, a3, a4, a5, a6⟩ := hr'
        refine ⟨oM_ext a1 (n2 1 (by decide) (by decide)) (n2 2 (by decide) (by decide)) (fun o p1 p2 => n1 o (by omega)), oMm_ext a2 (n2 8 (by decide) (by decide)) (n2 12 (by decide) (by decide)) (fun o p1 p2 => n1 o (by omega)), n3, n4, ⟨by show mm ≤ 5000; omega, hR12, l3, m4, m5, m6, ρ, l4⟩, oRS_ext a6 (fun q p1 p2 => n2 q (by omega) (by omega)) (fun o p1 p2 => n1 o (by omega))⟩
    · rw [if_neg g] at q
      obtain ⟨rfl, rfl⟩ := q
      have hr' := oKr_c hr (fun _ _ => rfl) h2
      refine (ot_mrun hr'.1 hr'.2.1 hr'.2.2.1 hr'.2.2.2.1 hal (by decide) (by decide)).mono (fun o σ2 m => ?_)
      rw [if_neg g] at m
      exact oEd_x (oKc_c hc h2) hr' m.1 m.2 rfl
theorem oq_look {a0 : Int32} (hc : oKc σ P M T S) (hr : oKr σ P M T S) : oOp L 41 85 σ [some (.int a0)] 2 3 (fun x => if x = 2 then 1 else 2) (oClv (fun x => x = 2 ∨ x = 0)) := by
  have hP := hc.1.1
  have hM := hc.2.1.1
  refine ⟨_, ot_look hc.1 hc.2.1 (by decide) (by decide), fun o σ' q => ?_, fun o1 σ1 τ q h2 => ?_⟩
  · by_cases g : oNx P ≤ 5000
    · rw [if_pos g] at q
      by_cases g2 : 0 ≤ a0 ∧ a0 < nI (oNx P)
      · rw [if_pos g2] at q
        obtain ⟨⟨x, b, v, m, g', -, -, q1, -⟩, q2⟩ := q
        exact ⟨Or.inl ⟨_, q1⟩, q2 174 (by decide) (by decide) (by decide) (by decide) (by decide)⟩
      · rw [if_neg g2] at q
        exact ⟨Or.inr ⟨_, q.1, Or.inl rfl⟩, by rw [q.2]⟩
    · rw [if_neg g] at q
      exact ⟨Or.inr ⟨_, q.1, Or.inr rfl⟩, by rw [q.2]⟩
  · by_cases g : oNx P ≤ 5000
    · rw [if_pos g] at q
      by_cases g2 : 0 ≤ a0 ∧ a0 < nI (oNx P)
      · rw [if_pos g2] at q
        obtain ⟨⟨x, b, v, m, g', ex, lx, rfl, q3, q4⟩, q5⟩ := q
        have hr' := oKr_c hr (fun o ho => q5 o (by omega) (by omega) (by omega) (by omega) (by omega)) h2
        have hc' : oKc σ1 P M T (P.n, ocR P P.n, M.R, oSc P x, oW P, oOd P x, v, m, g') := ⟨oC_ext hc.1 (q5 1 (by decide) (by decide) (by decide) (by decide) (by decide)) (fun o p1 p2 => q5 o (by omega) (by omega) (by omega) (by omega) (by omega)), oCo_ext hc.2.1 (q5 2 (by decide) (by decide) (by decide) (by decide) (by decide)) (fun o p1 p2 => q5 o (by omega) (by omega) (by omega) (by omega) (by omega)), oCL_ext hc.2.2.1 (q5 3 (by decide) (by decide) (by decide) (by decide) (by decide)) (fun o p1 p2 => q5 o (by omega) (by omega) (by omega) (by omega) (by omega)), q4⟩
        refine (ot_mlook (e := a0) hr'.1 hr'.2.1 hr'.2.2.1 hr'.2.2.2.1 (by decide) (by decide)).mono (fun o σ2 mm => ?_)
        rw [if_pos g, if_pos g2] at mm
        obtain ⟨x', b', v', m', g'', ex', lx', rfl, r3, r4, ⟨f1, f2, f3, f4⟩, r6⟩ := mm
        have exx : x' = x := (nI_eq (by omega) (by omega)).mp (by rw [← ex', ex])
        subst exx
        obtain ⟨eb, ev, em, eg⟩ := oLk_one hM q3 r3
        have hsq : oSq (P.n, ocR P P.n, M.R, oSc P x', oW P, oOd P x', v, m, g') (P.n, ocR P P.n, M.R, oSc P x', oW P, oOd P x', v', m', g'') := ⟨rfl, rfl, rfl, fun _ _ => rfl, fun _ _ => rfl, fun _ _ _ _ => rfl, fun r a c hr ha hc => ev r a c hr ha hc, em, eg⟩
        refine ⟨b', rfl, oAg_v r6 eb.symm, f1 8 (by decide), P, M, T, (P.n, ocR P P.n, M.R, oSc P x', oW P, oOd P x', v', m', g''), ?_, ?_⟩
        · have hk2 := oKc_ext (oKc_c hc' h2) (τ := σ2) (fun o ho => f1 o (by omega))
          exact ⟨hk2.1, hk2.2.1, hk2.2.2.1, oCS_le hk2.2.2.2 hsq⟩
        · obtain ⟨a1, a2, a3, a4, a5, a6⟩ := hr'
          exact ⟨oM_ext a1 (f2 1 (by decide) (by decide)) (f2 2 (by decide) (by decide)) (fun o p1 p2 => f1 o (by omega)), oMm_ext a2 (f2 8 (by decide) (by decide)) (f2 12 (by decide) (by decide)) (fun o p1 p2 => f1 o (by omega)), f3, f4, oRL_ext a5 (fun q p1 p2 => f2 q (by omega) (by omega)) (fun o p1 p2 => f1 o (by omega)), r4⟩
      · rw [if_neg g2] at q
        obtain ⟨rfl, rfl⟩ := q
        have hr' := oKr_c hr (fun _ _ => rfl) h2
        refine (ot_mlook (e := a0) hr'.1 hr'.2.1 hr'.2.2.1 hr'.2.2.2.1 (by decide) (by decide)).mono (fun o σ2 mm => ?_)
        rw [if_pos g, if_neg g2] at mm
        exact oEd_x (oKc_c hc h2) hr' mm.1 mm.2 rfl
    · rw [if_neg g] at q
      obtain ⟨rfl, rfl⟩ := q
      have hr' := oKr_c hr (fun _ _ => rfl) h2
      refine (ot_mlook (e := a0) hr'.1 hr'.2.1 hr'.2.2.1 hr'.2.2.2.1 (by decide) (by decide)).mono (fun o σ2 mm => ?_)
      rw [if_neg g] at mm
      exact oEd_x (oKc_c hc h2) hr' mm.1 mm.2 rfl
end OZD
