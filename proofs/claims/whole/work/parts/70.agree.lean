/-- the class holds; the reference holds -/
def oKc (σ : ox_S) (P : oPr) (M : oMo) (T : oLs) (S : oSe) : Prop := oC σ P ∧ oCo σ M ∧ oCL σ T ∧ oCS σ S
def oKr (σ : ox_S) (P : oPr) (M : oMo) (T : oLs) (S : oSe) : Prop := oM σ P ∧ oMm σ M ∧ oZ1 σ 56 5760 ∧ oZ1 σ 57 1872 ∧ oRL σ T ∧ oRS σ S
section OZC
variable {σ τ : ox_S} {P P' : oPr} {M M' : oMo} {T T' : oLs} {S S' : oSe}
theorem oKc_ext (h : oKc σ P M T S) (ho : ∀ o, o < 7 ∨ (8 < o ∧ o < 43) ∨ 67 < o → τ o = σ o) : oKc τ P M T S :=
  ⟨oC_ext h.1 (ho 1 (by decide)) (fun o q1 q2 => ho o (by omega)), oCo_ext h.2.1 (ho 2 (by decide)) (fun o q1 q2 => ho o (by omega)), oCL_ext h.2.2.1 (ho 3 (by decide)) (fun o q1 q2 => ho o (by omega)), oCS_ext h.2.2.2 (ho 5 (by decide)) (ho 6 (by decide)) (ho 26 (by decide)) (fun o q1 q2 => ho o (by omega))⟩
theorem oKr_ext (h : oKr σ P M T S) (h7 : ∀ q, q ≠ 0 → τ 7 q = σ 7 q) (ho : ∀ o, 43 ≤ o → o ≤ 67 → τ o = σ o) : oKr τ P M T S := by
  obtain ⟨a1, a2, a3, a4, a5, a6⟩ := h
  refine ⟨oM_ext a1 (h7 1 (by decide)) (h7 2 (by decide)) (fun o q1 q2 => ho o (by omega) (by omega)), oMm_ext a2 (h7 8 (by decide)) (h7 12 (by decide)) (fun o q1 q2 => ho o (by omega) (by omega)), ?_, ?_, oRL_ext a5 (fun q q1 q2 => h7 q (by omega)) (fun o q1 q2 => ho o (by omega) (by omega)), oRS_ext a6 (fun q q1 q2 => h7 q (by omega)) (fun o q1 q2 => ho o (by omega) (by omega))⟩
  · unfold oZ1; rw [ho 56 (by decide) (by decide)]; exact a3
  · unfold oZ1; rw [ho 57 (by decide) (by decide)]; exact a4
theorem oKr_0 {x : Int32} (h : oKr σ P M T S) : oKr (ox_up σ 7 0 x) P M T S := oKr_ext h (fun q hq => by rw [ox_up_at, if_neg hq]) (fun o q1 q2 => ox_up_ne (by omega))
theorem oKc_P (h : oKc σ P M T S) (hC : oC τ P') (hf : oFC1 σ τ) : oKc τ P' M T S :=
  ⟨hC, oCo_ext h.2.1 (hf 2 (by decide) (by decide)) (fun o q1 q2 => hf o (by omega) (by omega)), oCL_ext h.2.2.1 (hf 3 (by decide) (by decide)) (fun o q1 q2 => hf o (by omega) (by omega)), oCS_ext h.2.2.2 (hf 5 (by decide) (by decide)) (hf 6 (by decide) (by decide)) (hf 26 (by decide) (by decide)) (fun o q1 q2 => hf o (by omega) (by omega))⟩
theorem oKc_M (h : oKc σ P M T S) (hC : oCo τ M') (hf : oFC2 σ τ) : oKc τ P M' T S :=
  ⟨oC_ext h.1 (hf 1 (by decide) (by decide)) (fun o q1 q2 => hf o (by omega) (by omega)), hC, oCL_ext h.2.2.1 (hf 3 (by decide) (by decide)) (fun o q1 q2 => hf o (by omega) (by omega)), oCS_ext h.2.2.2 (hf 5 (by decide) (by decide)) (hf 6 (by decide) (by decide)) (hf 26 (by decide) (by decide)) (fun o q1 q2 => hf o (by omega) (by omega))⟩
theorem oKr_P (h : oKr σ P M T S) (hM : oM τ P') (hf : oFP σ τ) : oKr τ P' M T S := by
  obtain ⟨a1, a2, a3, a4, a5, a6⟩ := h
  refine ⟨hM, oMm_ext a2 (hf.2 8 (by decide)) (hf.2 12 (by decide)) (fun o q1 q2 => hf.1 o (by omega)), ?_, ?_, oRL_ext a5 (fun q q1 q2 => hf.2 q (by omega)) (fun o q1 q2 => hf.1 o (by omega)), oRS_ext a6 (fun q q1 q2 => hf.2 q (by omega)) (fun o q1 q2 => hf.1 o (by omega))⟩
  · unfold oZ1; rw [hf.1 56 (by decide)]; exact a3
  · unfold oZ1; rw [hf.1 57 (by decide)]; exact a4
theorem oKr_M (h : oKr σ P M T S) (hM : oMm τ M') (hf : oFQ σ τ) : oKr τ P M' T S := by
  obtain ⟨a1, a2, a3, a4, a5, a6⟩ := h
  refine ⟨oM_ext a1 (hf.2 1 (by decide) (by decide) (by decide)) (hf.2 2 (by decide) (by decide) (by decide)) (fun o q1 q2 => hf.1 o (by omega)), hM, ?_, ?_, oRL_ext a5 (fun q q1 q2 => hf.2 q (by omega) (by omega) (by omega)) (fun o q1 q2 => hf.1 o (by omega)), oRS_ext a6 (fun q q1 q2 => hf.2 q (by omega) (by omega) (by omega)) (fun o q1 q2 => hf.1 o (by omega))⟩
  · unfold oZ1; rw [hf.1 56 (by decide)]; exact a3
  · unfold oZ1; rw [hf.1 57 (by decide)]; exact a4
/-- both answers agree -/
def oAg (cd : Nat → Int32) (o1 : ox_O) (b t : Int32) : Prop := (∀ v, o1 = .inl (some (.int v)) → t = 0 ∧ b = v) ∧ ∀ x, o1 = .inr x → t = cd x
/-- both hold the same -/
def oKk (σ : ox_S) : Prop := ∃ P M T S, oKc σ P M T S ∧ oKr σ P M T S
/-- what the reference's call must leave when the class's call ended with o1 -/
def oEd (cd : Nat → Int32) (o1 : ox_O) (τ : ox_S) (o : ox_O) (σ2 : ox_S) : Prop := ∃ b, o = .inl (some (.int b)) ∧ oAg cd o1 b (σ2 7 0) ∧ σ2 8 = τ 8 ∧ oKk σ2
theorem oAg_v {cd : Nat → Int32} {v b t : Int32} (ht : t = 0) (hb : b = v) : oAg cd (.inl (some (.int v))) b t := ⟨fun v' e => by cases e; exact ⟨ht, hb⟩, fun x e => by cases e⟩
theorem oAg_x {cd : Nat → Int32} {x : Nat} {b t : Int32} (ht : t = cd x) : oAg cd (.inr x) b t := ⟨fun v' e => (by cases e), fun x' e => (by cases e; exact ht)⟩
/-- a refused call: nothing but the code changes -/
theorem oEd_x {cd : Nat → Int32} {x : Nat} {o : ox_O} {σ2 : ox_S} {t : Int32} (hc : oKc τ P M T S) (hr : oKr τ P M T S) (ho : ∃ b, o = .inl (some (.int b))) (hs : σ2 = ox_up τ 7 0 t) (ht : t = cd x) : oEd cd (.inr x) τ o σ2 := by
  obtain ⟨b, rfl⟩ := ho
  subst hs
  exact ⟨b, rfl, oAg_x (by rw [ox_up_at, if_pos rfl]; exact ht), ox_up_ne (by decide), P, M, T, S, oKc_ext hc (fun o ho => ox_up_ne (by omega)), oKr_0 hr⟩
/-- an answered question: nothing changes -/
theorem oEd_v {cd : Nat → Int32} {v : Int32} {o : ox_O} {σ2 : ox_S} (hc : oKc τ P M T S) (hr : oKr τ P M T S) (ho : o = .inl (some (.int v))) (hs : σ2 = ox_up τ 7 0 0) : oEd cd (.inl (some (.int v))) τ o σ2 := by
  subst hs
  exact ⟨v, ho, oAg_v (by rw [ox_up_at, if_pos rfl]) rfl, ox_up_ne (by decide), P, M, T, S, oKc_ext hc (fun o ho => ox_up_ne (by omega)), oKr_0 hr⟩
theorem oEd_P {cd : Nat → Int32} {v : Int32} {o : ox_O} {σ2 : ox_S} (hc : oKc τ P' M T S) (hr : oKr τ P M T S) (ho : o = .inl (some (.int v))) (h0 : σ2 7 0 = 0) (hM : oM σ2 P') (hf : oFP τ σ2) : oEd cd (.inl (some (.int v))) τ o σ2 :=
  ⟨v, ho, oAg_v h0 rfl, hf.1 8 (by decide), P', M, T, S, oKc_ext hc (fun o ho => hf.1 o (by omega)), oKr_P hr hM hf⟩
theorem oEd_M {cd : Nat → Int32} {v : Int32} {o : ox_O} {σ2 : ox_S} (hc : oKc τ P M' T S) (hr : oKr τ P M T S) (ho : o = .inl (some (.int v))) (h0 : σ2 7 0 = 0) (hM : oMm σ2 M') (hf : oFQ τ σ2) : oEd cd (.inl (some (.int v))) τ o σ2 :=
  ⟨v, ho, oAg_v h0 rfl, hf.1 8 (by decide), P, M', T, S, oKc_ext hc (fun o ho => hf.1 o (by omega)), oKr_M hr hM hf⟩
/-- the class's call left the reference alone -/
theorem oKr_c {σ1 : ox_S} (h : oKr σ P M T S) (h1 : ∀ o, o = 7 ∨ (43 ≤ o ∧ o ≤ 67) → σ1 o = σ o) (h2 : ∀ o, o ≠ 8 → τ o = σ1 o) : oKr τ P M T S :=
  oKr_ext h (fun q _ => by rw [h2 7 (by decide), h1 7 (by decide)]) (fun o q1 q2 => by rw [h2 o (by omega), h1 o (by omega)])
theorem oKc_c {σ1 : ox_S} (h : oKc σ1 P M T S) (h2 : ∀ o, o ≠ 8 → τ o = σ1 o) : oKc τ P M T S := oKc_ext h (fun o ho => h2 o (by omega))
/-- an operation: a the class's method, r the reference's -/
def oOp (L a r : Nat) (σ : ox_S) (as : List (Option Value)) (na nr : Nat) (cd : Nat → Int32) (Cl : ox_O → Prop) : Prop :=
  ∃ PostC, oT L 8 a 0 (some (.ref 0) :: (as ++ List.replicate na none)) [] σ PostC ∧ (∀ o σ', PostC o σ' → Cl o ∧ σ' 174 = σ 174) ∧ ∀ o1 σ1 τ, PostC o1 σ1 → (∀ o, o ≠ 8 → τ o = σ1 o) → oT L 9 r 0 (some (.ref 7) :: (as ++ List.replicate nr none)) [] τ (oEd cd o1 τ)
def oClv (ex : Nat → Prop) (o : ox_O) : Prop := (∃ v, o = .inl (some (.int v))) ∨ ∃ x, o = .inr x ∧ ex x
def oClb (ex : Nat → Prop) (o : ox_O) : Prop := (∃ t : Bool, o = .inl (some (.int (if t then 1 else 0)))) ∨ ∃ x, o = .inr x ∧ ex x
variable {L : Nat}
theorem oq_thread (hc : oKc σ P M T S) (hr : oKr σ P M T S) : oOp L 32 53 σ [] 0 0 (fun _ => 1) (oClv (fun x => x = 0)) := by
  refine ⟨_, ot_thread' hc.1 (by decide) (by decide), fun o σ' q => ?_, fun o1 σ1 τ q h2 => ?_⟩
  · rcases Nat.lt_or_ge P.T 4 with e | e
    · exact ⟨Or.inl ⟨_, (q.1 e).1⟩, (q.1 e).2.2 174 (by decide) (by decide)⟩
    · exact ⟨Or.inr ⟨_, (q.2 (by have := hc.1.1.1; omega)).1, rfl⟩, by rw [(q.2 (by have := hc.1.1.1; omega)).2]⟩
  · have hT := hc.1.1.1
    rcases Nat.lt_or_ge P.T 4 with e | e
    · obtain ⟨rfl, q2, q3⟩ := q.1 e
      have hr' := oKr_c hr (fun o ho => q3 o (by omega) (by omega)) h2
      refine (ot_mthread' hr'.1 (by decide) (by decide)).mono (fun o σ2 m => ?_)
      obtain ⟨m1, m2, m3, m4⟩ := m.1 e
      exact oEd_P (oKc_c (oKc_P hc q2 q3) h2) hr' m1 m2 m3 m4
    · obtain ⟨rfl, rfl⟩ := q.2 (by omega)
      have hr' := oKr_c hr (fun _ _ => rfl) h2
      refine (ot_mthread' hr'.1 (by decide) (by decide)).mono (fun o σ2 m => ?_)
      obtain ⟨m1, m2⟩ := m.2 (by omega)
      exact oEd_x (oKc_c hc h2) hr' m1 m2 rfl
theorem oq_event {a0 a1 a2 a3 : Int32} (hc : oKc σ P M T S) (hr : oKr σ P M T S) : oOp L 33 54 σ [some (.int a0), some (.int a1), some (.int a2), some (.int a3)] 0 2 (fun x => if x = 1 then 1 else 2) (oClv (fun x => x = 1 ∨ x = 0)) := by
  have hP := hc.1.1
  refine ⟨_, ot_event hc.1 (by decide) (by decide), fun o σ' q => ?_, fun o1 σ1 τ q h2 => ?_⟩
  · by_cases g : oEg P a0 a1 a2
    · rcases Nat.lt_or_ge P.n 12 with e | e
      · obtain ⟨t', w', a', e1, e2, e3, e4, e5⟩ := oEg_nat hP g
        exact ⟨Or.inl ⟨_, (q.1 g e t' w' a' e1 e2 e3 e4 e5).1⟩, (q.1 g e t' w' a' e1 e2 e3 e4 e5).2.2 174 (by decide) (by decide)⟩
      · exact ⟨Or.inr ⟨_, (q.2.1 g (by have := hP.2.1; omega)).1, Or.inr rfl⟩, by rw [(q.2.1 g (by have := hP.2.1; omega)).2]⟩
    · exact ⟨Or.inr ⟨_, (q.2.2 g).1, Or.inl rfl⟩, by rw [(q.2.2 g).2]⟩
  · by_cases g : oEg P a0 a1 a2
    · rcases Nat.lt_or_ge P.n 12 with e | e
      · obtain ⟨t', w', a', e1, e2, e3, e4, e5⟩ := oEg_nat hP g
        obtain ⟨rfl, q2, q3⟩ := q.1 g e t' w' a' e1 e2 e3 e4 e5
        have hr' := oKr_c hr (fun o ho => q3 o (by omega) (by omega)) h2
        refine (ot_mevent hr'.1 (by decide) (by decide)).mono (fun o σ2 m => ?_)
        obtain ⟨m1, m2, m3, m4⟩ := m.1 g e t' w' a' e1 e2 e3 e4 e5
        exact oEd_P (oKc_c (oKc_P hc q2 q3) h2) hr' m1 m2 m3 m4
      · have e12 : P.n = 12 := by have := hP.2.1; omega
        obtain ⟨rfl, rfl⟩ := q.2.1 g e12
        have hr' := oKr_c hr (fun _ _ => rfl) h2
        refine (ot_mevent hr'.1 (by decide) (by decide)).mono (fun o σ2 m => ?_)
        obtain ⟨m1, m2⟩ := m.2.1 g e12
        exact oEd_x (oKc_c hc h2) hr' m1 m2 rfl
    · obtain ⟨rfl, rfl⟩ := q.2.2 g
      have hr' := oKr_c hr (fun _ _ => rfl) h2
      refine (ot_mevent hr'.1 (by decide) (by decide)).mono (fun o σ2 m => ?_)
      obtain ⟨m1, m2⟩ := m.2.2 g
      exact oEd_x (oKc_c hc h2) hr' m1 m2 rfl
theorem oq_depends {a0 a1 : Int32} (hc : oKc σ P M T S) (hr : oKr σ P M T S) : oOp L 34 56 σ [some (.int a0), some (.int a1)] 1 2 (fun _ => 1) (oClb (fun x => x = 1)) := by
  refine ⟨_, ot_depends hc.1 (by decide) (by decide), fun o σ' q => ?_, fun o1 σ1 τ q h2 => ?_⟩
  · by_cases g : oDg' P a0 a1
    · obtain ⟨a', b', e1, e2, e3⟩ := g
      refine ⟨Or.inl ⟨!(P.dp a' b'), ?_⟩, (q.1 a' b' e1 e2 e3).2.2 174 (by decide) (by decide)⟩
      rw [(q.1 a' b' e1 e2 e3).1]
      cases P.dp a' b' <;> rfl
    · exact ⟨Or.inr ⟨_, (q.2 g).1, rfl⟩, by rw [(q.2 g).2]⟩
  · by_cases g : oDg' P a0 a1
    · obtain ⟨a', b', e1, e2, e3⟩ := g
      obtain ⟨rfl, q2, q3⟩ := q.1 a' b' e1 e2 e3
      have hr' := oKr_c hr (fun o ho => q3 o (by omega) (by omega)) h2
      refine (ot_mdepends hr'.1 (by decide) (by decide)).mono (fun o σ2 m => ?_)
      obtain ⟨m1, m2, m3, m4⟩ := m.1 a' b' e1 e2 e3
      exact oEd_P (oKc_c (oKc_P hc q2 q3) h2) hr' m1 m2 m3 m4
    · obtain ⟨rfl, rfl⟩ := q.2 g
      have hr' := oKr_c hr (fun _ _ => rfl) h2
      refine (ot_mdepends hr'.1 (by decide) (by decide)).mono (fun o σ2 m => ?_)
      obtain ⟨m1, m2⟩ := m.2 g
      exact oEd_x (oKc_c hc h2) hr' m1 m2 rfl
theorem oq_make {a0 a1 a2 : Int32} (hc : oKc σ P M T S) (hr : oKr σ P M T S) : oOp L 35 59 σ [some (.int a0), some (.int a1), some (.int a2)] 0 1 (fun x => if x = 1 then 1 else 2) (oClv (fun x => x = 1 ∨ x = 0)) := by
  have hM := hc.2.1.1
  refine ⟨_, ot_make hc.2.1 (by decide) (by decide), fun o σ' q => ?_, fun o1 σ1 τ q h2 => ?_⟩
  · by_cases g : oMg M a0 a1 a2
    · rcases Nat.lt_or_ge M.R 40 with e | e
      · obtain ⟨h', a', b', e1, e2, e3, e4, e5, e6, e7⟩ := oMg_nat hM g
        exact ⟨Or.inl ⟨_, (q.1 g e h' a' b' e1 e2 e3 e4 e5 e6 e7).1⟩, (q.1 g e h' a' b' e1 e2 e3 e4 e5 e6 e7).2.2 174 (by decide) (by decide)⟩
      · exact ⟨Or.inr ⟨_, (q.2.1 g (by have := hM.2.1; omega)).1, Or.inr rfl⟩, by rw [(q.2.1 g (by have := hM.2.1; omega)).2]⟩
    · exact ⟨Or.inr ⟨_, (q.2.2 g).1, Or.inl rfl⟩, by rw [(q.2.2 g).2]⟩
  · by_cases g : oMg M a0 a1 a2
    · rcases Nat.lt_or_ge M.R 40 with e | e
      · obtain ⟨h', a', b', e1, e2, e3, e4, e5, e6, e7⟩ := oMg_nat hM g
        obtain ⟨rfl, q2, q3⟩ := q.1 g e h' a' b' e1 e2 e3 e4 e5 e6 e7
        have hr' := oKr_c hr (fun o ho => q3 o (by omega) (by omega)) h2
        refine (ot_mmake hr'.2.1 (by decide) (by decide)).mono (fun o σ2 m => ?_)
        obtain ⟨m1, m2, m3, m4⟩ := m.1 g e h' a' b' e1 e2 e3 e4 e5 e6 e7
        exact oEd_M (oKc_c (oKc_M hc q2 q3) h2) hr' m1 m2 m3 m4
      · have e40 : M.R = 40 := by have := hM.2.1; omega
        obtain ⟨rfl, rfl⟩ := q.2.1 g e40
        have hr' := oKr_c hr (fun _ _ => rfl) h2
        refine (ot_mmake hr'.2.1 (by decide) (by decide)).mono (fun o σ2 m => ?_)
        obtain ⟨m1, m2⟩ := m.2.1 g e40
        exact oEd_x (oKc_c hc h2) hr' m1 m2 rfl
    · obtain ⟨rfl, rfl⟩ := q.2.2 g
      have hr' := oKr_c hr (fun _ _ => rfl) h2
      refine (ot_mmake hr'.2.1 (by decide) (by decide)).mono (fun o σ2 m => ?_)
      obtain ⟨m1, m2⟩ := m.2.2 g
      exact oEd_x (oKc_c hc h2) hr' m1 m2 rfl
theorem oq_rule {a0 : Int32} (hc : oKc σ P M T S) (hr : oKr σ P M T S) : oOp L 36 60 σ [some (.int a0)] 0 0 (fun x => if x = 1 then 1 else 2) (oClv (fun x => x = 1 ∨ x = 0)) := by
  have hM := hc.2.1.1
  have hR := hM.2.1
  have hQ := hM.2.2.1
  refine ⟨_, ot_rule hc.2.1 (by decide) (by decide), fun o σ' q => ?_, fun o1 σ1 τ q h2 => ?_⟩
  · by_cases g : 0 ≤ a0 ∧ a0 < nI M.R
    · obtain ⟨e1, e2⟩ := ox_natlt g.1 g.2 (by omega)
      rcases Nat.lt_or_ge M.Q 8 with e | e
      · exact ⟨Or.inl ⟨_, (q.1 _ e1 e2 e).1⟩, (q.1 _ e1 e2 e).2.2 174 (by decide) (by decide)⟩
      · exact ⟨Or.inr ⟨_, (q.2.1 g (by omega)).1, Or.inr rfl⟩, by rw [(q.2.1 g (by omega)).2]⟩
    · exact ⟨Or.inr ⟨_, (q.2.2 g).1, Or.inl rfl⟩, by rw [(q.2.2 g).2]⟩
  · by_cases g : 0 ≤ a0 ∧ a0 < nI M.R
    · obtain ⟨e1, e2⟩ := ox_natlt g.1 g.2 (by omega)
      rcases Nat.lt_or_ge M.Q 8 with e | e
      · obtain ⟨rfl, q2, q3⟩ := q.1 _ e1 e2 e
        have hr' := oKr_c hr (fun o ho => q3 o (by omega) (by omega)) h2
        refine (ot_mrule hr'.2.1 (by decide) (by decide)).mono (fun o σ2 m => ?_)
        obtain ⟨m1, m2, m3, m4⟩ := m.1 _ e1 e2 e
        exact oEd_M (oKc_c (oKc_M hc q2 q3) h2) hr' m1 m2 m3 m4
      · have e8 : M.Q = 8 := by omega
        obtain ⟨rfl, rfl⟩ := q.2.1 g e8
        have hr' := oKr_c hr (fun _ _ => rfl) h2
        refine (ot_mrule hr'.2.1 (by decide) (by decide)).mono (fun o σ2 m => ?_)
        obtain ⟨m1, m2⟩ := m.2.1 g e8
        exact oEd_x (oKc_c hc h2) hr' m1 m2 rfl
    · obtain ⟨rfl, rfl⟩ := q.2.2 g
      have hr' := oKr_c hr (fun _ _ => rfl) h2
      refine (ot_mrule hr'.2.1 (by decide) (by decide)).mono (fun o σ2 m => ?_)
      obtain ⟨m1, m2⟩ := m.2.2 g
      exact oEd_x (oKc_c hc h2) hr' m1 m2 rfl
theorem oq_given {a0 : Int32} (hc : oKc σ P M T S) (hr : oKr σ P M T S) : oOp L 37 62 σ [some (.int a0)] 0 1 (fun _ => 1) (oClv (fun x => x = 1)) := by
  have nat5 : 0 ≤ a0 ∧ a0 ≤ 5 → a0 = nI a0.toNatClampNeg ∧ a0.toNatClampNeg ≤ 5 := fun g => by
    obtain ⟨e0, e1⟩ := ox_nat g.1
    refine ⟨e0, ?_⟩
    have := g.2
    rw [e0] at this
    exact (nI_leI (b := 5) e1 (by decide)).mp this
  refine ⟨_, ot_given hc.2.1 (by decide) (by decide), fun o σ' q => ?_, fun o1 σ1 τ q h2 => ?_⟩
  · by_cases g : 0 ≤ a0 ∧ a0 ≤ 5
    · obtain ⟨e1, e2⟩ := nat5 g
      exact ⟨Or.inl ⟨_, (q.1 _ e1 e2).1⟩, (q.1 _ e1 e2).2.2 174 (by decide) (by decide)⟩
    · exact ⟨Or.inr ⟨_, (q.2 g).1, rfl⟩, by rw [(q.2 g).2]⟩
  · by_cases g : 0 ≤ a0 ∧ a0 ≤ 5
    · obtain ⟨e1, e2⟩ := nat5 g
      obtain ⟨rfl, q2, q3⟩ := q.1 _ e1 e2
      have hr' := oKr_c hr (fun o ho => q3 o (by omega) (by omega)) h2
      refine (ot_mgiven hr'.2.1 (by decide) (by decide)).mono (fun o σ2 m => ?_)
      obtain ⟨m1, m2, m3, m4⟩ := m.1 _ e1 e2
      exact oEd_M (oKc_c (oKc_M hc q2 q3) h2) hr' m1 m2 m3 m4
    · obtain ⟨rfl, rfl⟩ := q.2 g
      have hr' := oKr_c hr (fun _ _ => rfl) h2
      refine (ot_mgiven hr'.2.1 (by decide) (by decide)).mono (fun o σ2 m => ?_)
      obtain ⟨m1, m2⟩ := m.2 g
      exact oEd_x (oKc_c hc h2) hr' m1 m2 rfl
theorem oq_outcome {a0 a1 : Int32} (hc : oKc σ P M T S) (hr : oKr σ P M T S) : oOp L 39 82 σ [some (.int a0), some (.int a1)] 0 0 (fun _ => 1) (oClv (fun x => x = 2)) := by
  refine ⟨_, ot_outcome hc.2.2.1 (by decide) (by decide), fun o σ' q => ?_, fun o1 σ1 τ q h2 => ?_⟩
  · obtain ⟨rfl, q⟩ := q
    by_cases g : (0 ≤ a0 ∧ a0 < nI T.m) ∧ (0 ≤ a1 ∧ a1 < nI T.R)
    · rw [if_pos g] at q; exact ⟨Or.inl ⟨_, q⟩, rfl⟩
    · rw [if_neg g] at q; exact ⟨Or.inr ⟨_, q, rfl⟩, rfl⟩
  · obtain ⟨rfl, q⟩ := q
    have hr' := oKr_c hr (fun _ _ => rfl) h2
    refine (ot_moutcome hr'.2.2.2.2.1 (by decide) (by decide)).mono (fun o σ2 m => ?_)
    by_cases g : (0 ≤ a0 ∧ a0 < nI T.m) ∧ (0 ≤ a1 ∧ a1 < nI T.R)
    · rw [if_pos g] at q m
      subst q
      exact oEd_v (oKc_c hc h2) hr' m.1 m.2
    · rw [if_neg g] at q m
      subst q
      exact oEd_x (oKc_c hc h2) hr' m.1 m.2 rfl
theorem oq_witness {a0 a1 : Int32} (hc : oKc σ P M T S) (hr : oKr σ P M T S) : oOp L 40 83 σ [some (.int a0), some (.int a1)] 0 0 (fun _ => 1) (oClv (fun x => x = 2)) := by
  refine ⟨_, ot_witness hc.2.2.1 (by decide) (by decide), fun o σ' q => ?_, fun o1 σ1 τ q h2 => ?_⟩
  · obtain ⟨rfl, q⟩ := q
    by_cases g : (0 ≤ a0 ∧ a0 < nI T.m) ∧ (0 ≤ a1 ∧ a1 < nI 2)
    · rw [if_pos g] at q; exact ⟨Or.inl ⟨_, q⟩, rfl⟩
    · rw [if_neg g] at q; exact ⟨Or.inr ⟨_, q, rfl⟩, rfl⟩
  · obtain ⟨rfl, q⟩ := q
    have hr' := oKr_c hr (fun _ _ => rfl) h2
    refine (ot_mwitness hr'.2.2.2.2.1 (by decide) (by decide)).mono (fun o σ2 m => ?_)
    by_cases g : (0 ≤ a0 ∧ a0 < nI T.m) ∧ (0 ≤ a1 ∧ a1 < nI 2)
    · rw [if_pos g] at q m
      subst q
      exact oEd_v (oKc_c hc h2) hr' m.1 m.2
    · rw [if_neg g] at q m
      subst q
      exact oEd_x (oKc_c hc h2) hr' m.1 m.2 rfl
theorem oq_source {a0 : Int32} (hc : oKc σ P M T S) (hr : oKr σ P M T S) : oOp L 42 86 σ [some (.int a0)] 0 0 (fun _ => 1) (oClv (fun x => x = 2)) := by
  refine ⟨_, ot_source hc.2.2.2 (by decide) (by decide), fun o σ' q => ?_, fun o1 σ1 τ q h2 => ?_⟩
  · obtain ⟨rfl, q⟩ := q
    by_cases g : 0 ≤ a0 ∧ a0 < nI S.R
    · rw [if_pos g] at q; exact ⟨Or.inl ⟨_, q⟩, rfl⟩
    · rw [if_neg g] at q; exact ⟨Or.inr ⟨_, q, rfl⟩, rfl⟩
  · obtain ⟨rfl, q⟩ := q
    have hr' := oKr_c hr (fun _ _ => rfl) h2
    refine (ot_msource hr'.2.2.2.2.2 (by decide) (by decide)).mono (fun o σ2 m => ?_)
    by_cases g : 0 ≤ a0 ∧ a0 < nI S.R
    · rw [if_pos g] at q m
      subst q
      exact oEd_v (oKc_c hc h2) hr' m.1 m.2
    · rw [if_neg g] at q m
      subst q
      exact oEd_x (oKc_c hc h2) hr' m.1 m.2 rfl
theorem oq_order {a0 a1 : Int32} (hc : oKc σ P M T S) (hr : oKr σ P M T S) : oOp L 43 87 σ [some (.int a0), some (.int a1)] 0 0 (fun _ => 1) (oClv (fun x => x = 2)) := by
  refine ⟨_, ot_order hc.2.2.2 (by decide) (by decide), fun o σ' q => ?_, fun o1 σ1 τ q h2 => ?_⟩
  · obtain ⟨rfl, q⟩ := q
    by_cases g : (0 ≤ a0 ∧ a0 < nI 4) ∧ (0 ≤ a1 ∧ a1 < nI (S.W a0.toNatClampNeg))
    · rw [if_pos g] at q; exact ⟨Or.inl ⟨_, q⟩, rfl⟩
    · rw [if_neg g] at q; exact ⟨Or.inr ⟨_, q, rfl⟩, rfl⟩
  · obtain ⟨rfl, q⟩ := q
    have hr' := oKr_c hr (fun _ _ => rfl) h2
    refine (ot_morder hr'.2.2.2.2.2 (by decide) (by decide)).mono (fun o σ2 m => ?_)
    by_cases g : (0 ≤ a0 ∧ a0 < nI 4) ∧ (0 ≤ a1 ∧ a1 < nI (S.W a0.toNatClampNeg))
    · rw [if_pos g] at q m
      subst q
      exact oEd_v (oKc_c hc h2) hr' m.1 m.2
    · rw [if_neg g] at q m
      subst q
      exact oEd_x (oKc_c hc h2) hr' m.1 m.2 rfl
theorem oq_related {a0 a1 a2 : Int32} (hc : oKc σ P M T S) (hr : oKr σ P M T S) : oOp L 44 88 σ [some (.int a0), some (.int a1), some (.int a2)] 0 0 (fun _ => 1) (oClb (fun x => x = 2)) := by
  refine ⟨_, ot_related hc.2.2.2 (by decide) (by decide), fun o σ' q => ?_, fun o1 σ1 τ q h2 => ?_⟩
  · obtain ⟨rfl, q⟩ := q
    by_cases g : (0 ≤ a0 ∧ a0 < nI S.N) ∧ (0 ≤ a1 ∧ a1 < nI S.E) ∧ (0 ≤ a2 ∧ a2 < nI S.E)
    · rw [if_pos g] at q; exact ⟨Or.inl ⟨_, q⟩, rfl⟩
    · rw [if_neg g] at q; exact ⟨Or.inr ⟨_, q, rfl⟩, rfl⟩
  · obtain ⟨rfl, q⟩ := q
    have hr' := oKr_c hr (fun _ _ => rfl) h2
    refine (ot_mrelated hr'.2.2.2.2.2 (by decide) (by decide)).mono (fun o σ2 m => ?_)
    by_cases g : (0 ≤ a0 ∧ a0 < nI S.N) ∧ (0 ≤ a1 ∧ a1 < nI S.E) ∧ (0 ≤ a2 ∧ a2 < nI S.E)
    · rw [if_pos g] at q m
      subst q
      exact oEd_v (oKc_c hc h2) hr' m.1 m.2
    · rw [if_neg g] at q m
      subst q
      exact oEd_x (oKc_c hc h2) hr' m.1 m.2 rfl
theorem oq_ringAt {a0 : Int32} (hc : oKc σ P M T S) (hr : oKr σ P M T S) : oOp L 46 90 σ [some (.int a0)] 0 0 (fun _ => 1) (oClv (fun x => x = 2)) := by
  refine ⟨_, ot_ringAt hc.2.2.2 (by decide) (by decide), fun o σ' q => ?_, fun o1 σ1 τ q h2 => ?_⟩
  · obtain ⟨rfl, q⟩ := q
    by_cases g : 0 ≤ a0 ∧ a0 < nI S.m
    · rw [if_pos g] at q; exact ⟨Or.inl ⟨_, q⟩, rfl⟩
    · rw [if_neg g] at q; exact ⟨Or.inr ⟨_, q, rfl⟩, rfl⟩
  · obtain ⟨rfl, q⟩ := q
    have hr' := oKr_c hr (fun _ _ => rfl) h2
    refine (ot_mringAt hr'.2.2.2.2.2 (by decide) (by decide)).mono (fun o σ2 m => ?_)
    by_cases g : 0 ≤ a0 ∧ a0 < nI S.m
    · rw [if_pos g] at q m
      subst q
      exact oEd_v (oKc_c hc h2) hr' m.1 m.2
    · rw [if_neg g] at q m
      subst q
      exact oEd_x (oKc_c hc h2) hr' m.1 m.2 rfl
end OZC
