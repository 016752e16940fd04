/-- the class holds the list -/
def oCL (σ : ox_S) (T : oLs) : Prop := T.m ≤ 5000 ∧ T.R ≤ 12 ∧ σ 3 2 = nI T.m ∧ σ 3 0 = nI T.N ∧ σ 3 1 = nI T.A ∧ σ 3 3 = nI T.R ∧ ∃ (pl C : Nat → Nat) (d : Nat → Nat → Nat), (∀ i, i < T.R → pl i < 4 ∧ σ 31 i = nI (pl i) ∧ 1 ≤ C (pl i) ∧ C (pl i) ≤ 13 ∧ σ 32 (pl i) = nI (C (pl i))) ∧ ∀ k, k < T.m → (∀ i, i < T.R → d k i < C (pl i) ∧ σ (34 + pl i) (d k i) = T.V k i) ∧ oNb (fun i => C (pl i)) (d k) T.R < 5000 ∧ σ 30 k = nI (oNb (fun i => C (pl i)) (d k) T.R) ∧ σ 28 k = nI (T.c k) ∧ σ 29 k = nI (T.f k)
theorem oCL_ext {σ τ : ox_S} {T : oLs} (h : oCL σ T) (h3 : τ 3 = σ 3) (ho : ∀ o, 28 ≤ o → o ≤ 42 → τ o = σ o) : oCL τ T := by
  obtain ⟨a1, a2, a3, a4, a5, a6, pl, C, d, a7, a8⟩ := h
  refine ⟨a1, a2, by rw [h3]; exact a3, by rw [h3]; exact a4, by rw [h3]; exact a5, by rw [h3]; exact a6, pl, C, d, fun i hi => ?_, fun k hk => ?_⟩
  · rw [ho 31 (by decide) (by decide), ho 32 (by decide) (by decide)]
    exact a7 i hi
  · obtain ⟨b1, b2⟩ := a8 k hk
    refine ⟨fun i hi => ?_, ?_⟩
    · rw [ho (34 + pl i) (by omega) (by have := (a7 i hi).1; omega)]
      exact b1 i hi
    · rw [ho 30 (by decide) (by decide), ho 28 (by decide) (by decide), ho 29 (by decide) (by decide)]
      exact b2
/-- lists that say the same -/
def oLe (T T' : oLs) : Prop := T.m = T'.m ∧ T.N = T'.N ∧ T.A = T'.A ∧ T.R = T'.R ∧ ∀ k, k < T.m → (∀ i, i < T.R → T.V k i = T'.V k i) ∧ T.c k = T'.c k ∧ T.f k = T'.f k
theorem oCL_le {σ : ox_S} {T T' : oLs} (h : oCL σ T) (e : oLe T T') : oCL σ T' := by
  obtain ⟨a1, a2, a3, a4, a5, a6, pl, C, d, a7, a8⟩ := h
  obtain ⟨e1, e2, e3, e4, e5⟩ := e
  refine ⟨by rw [← e1]; exact a1, by rw [← e4]; exact a2, by rw [← e1]; exact a3, by rw [← e2]; exact a4, by rw [← e3]; exact a5, by rw [← e4]; exact a6, pl, C, d, fun i hi => a7 i (by rw [e4]; exact hi), fun k hk => ?_⟩
  rw [← e1] at hk
  obtain ⟨b1, b2, b3, b4, b5⟩ := a8 k hk
  obtain ⟨f1, f2, f3⟩ := e5 k hk
  rw [← e4]
  exact ⟨fun i hi => ⟨(b1 i hi).1, by rw [← f1 i hi]; exact (b1 i hi).2⟩, b2, b3, by rw [← f2]; exact b4, by rw [← f3]; exact b5⟩
section OYL
variable {L k : Nat} {σ : ox_S} {P : oPr}
set_option maxHeartbeats 1000000 in
theorem ot_finish {al : Nat → Bool} {C : Nat → Nat} {K : Nat → Nat → Nat} (hP : P.ok) (hN : oNx P ≤ 5000) (h : oLc σ P al C K (oNx P)) : oT L k 13 0 [some (.ref 3), none] [] σ (fun o σ' => o = .inl none ∧ (∀ o, o ≠ 3 → o < 28 ∨ 30 < o → σ' o = σ o) ∧ ∃ T, oCL σ' T ∧ oLm (ocR P P.n) al (oVc P) (oNx P) T.m T.V T.c T.f ∧ T.N = oNx P ∧ T.A = oCn al (oNx P) ∧ T.R = ocR P P.n) := by
  obtain ⟨h0, h1, h2, h3, h4, h5, h6⟩ := h
  have hR := Nat.le_trans (ocR_le P P.n) hP.2.1
  generalize htz : (fun v => decide (oTt P al C K (oNx P) v ≠ 0)) = tz
  have tzi : ∀ v, tz v = true ↔ 0 < oTt P al C K (oNx P) v := fun v => by
    rw [← htz]
    show decide _ = true ↔ _
    rw [decide_eq_true_eq]
    omega
  -- the first of each number
  have hfx : ∃ F : Nat → Nat, ∀ v, v < oNx P → tz v = true → σ 29 v = nI (F v) ∧ F v < oNx P ∧ al (F v) = true ∧ oNn P C K (F v) = v ∧ ∀ x, x < F v → ¬ (al x = true ∧ oNn P C K x = v) := by
    have hall : ∀ v, ∃ f, v < oNx P → tz v = true → σ 29 v = nI f ∧ f < oNx P ∧ al f = true ∧ oNn P C K f = v ∧ ∀ x, x < f → ¬ (al x = true ∧ oNn P C K x = v) := fun v => by
      by_cases q : v < oNx P ∧ tz v = true
      · obtain ⟨f, hf⟩ := (h6 v q.1).2 ((tzi v).mp q.2)
        exact ⟨f, fun _ _ => hf⟩
      · exact ⟨0, fun q1 q2 => absurd ⟨q1, q2⟩ q⟩
    exact ⟨fun v => Classical.choose (hall v), fun v => Classical.choose_spec (hall v)⟩
  obtain ⟨F, hF⟩ := hfx
  refine oT_N 2 rfl ?_
  have loop : ∀ (d v : Nat) (τ : ox_S), v + d = oNx P → (∀ o, o ≠ 3 → o < 28 ∨ 30 < o → τ o = σ o) → (∀ q, q ≠ 2 → τ 3 q = σ 3 q) → τ 3 2 = nI (oCn tz v) → (∀ v', v ≤ v' → v' < oNx P → τ 28 v' = σ 28 v' ∧ τ 29 v' = σ 29 v') → (∀ k, k < oCn tz v → τ 30 k = nI (oKt tz v k) ∧ τ 28 k = nI (oTt P al C K (oNx P) (oKt tz v k)) ∧ τ 29 k = nI (F (oKt tz v k))) → oT L k 13 2 [some (.ref 3), some (.int (nI v))] [] τ (fun o σ' => o = .inl none ∧ (∀ o, o ≠ 3 → o < 28 ∨ 30 < o → σ' o = σ o) ∧ ∃ T, oCL σ' T ∧ oLm (ocR P P.n) al (oVc P) (oNx P) T.m T.V T.c T.f ∧ T.N = oNx P ∧ T.A = oCn al (oNx P) ∧ T.R = ocR P P.n) := by
    intro d
    induction d with
    | zero =>
      intro v τ hv t1 t2 t3 t4 t5
      obtain rfl : v = oNx P := by omega
      refine oT_N 4 rfl (oT_le (oNx P) (oNx P) (by rw [t2 0 (by decide)]; exact h0) rfl (by omega) (by omega) (fun _ => ?_) (fun q => by omega))
      have hcn := oCn_le tz (oNx P)
      -- what numbers say
      have ksp : ∀ k, k < oCn tz (oNx P) → oKt tz (oNx P) k < oNx P ∧ tz (oKt tz (oNx P) k) = true ∧ oCn tz (oKt tz (oNx P) k) = k := fun k hk => oKt_sp _ hk
      have dig : ∀ x i, i < ocR P P.n → oDi P K x i < oRx P C i := fun x i hi => (oDi_lt hP h5 hi).1
      have val : ∀ x i, i < ocR P P.n → σ (34 + P.pl (oRd P i)) (oDi P K x i) = oVc P x i := fun x i hi => (oDi_lt hP h5 hi).2
      have so : ∀ i, i < ocR P P.n → oSo (σ (34 + P.pl (oRd P i))) (oRx P C i) := fun i hi => by
        obtain ⟨r1, r2, -⟩ := oRd_sp hi
        exact (h5 _ ((hP.2.2 _ r1).2.2 (by omega))).2.2.2.1
      have same : ∀ x y, oQ (ocR P P.n) (oVc P x) (oVc P y) = true ↔ oNn P C K x = oNn P C K y := fun x y => by
        rw [oQ_iff]
        constructor
        · intro q
          refine oNb_ext _ (fun i hi => ?_)
          have e := q i hi
          rw [← val x i hi, ← val y i hi] at e
          rcases Nat.lt_trichotomy (oDi P K x i) (oDi P K y i) with r | r | r
          · exact absurd (so i hi _ _ r (dig y i hi)) (by rw [e]; exact Int32.lt_irrefl)
          · exact r
          · exact absurd (so i hi _ _ r (dig x i hi)) (by rw [e]; exact Int32.lt_irrefl)
        · intro q i hi
          have e := oNb_inj (ocR P P.n) (dig x) (dig y) q i hi
          rw [← val x i hi, ← val y i hi, e]
      refine oT_Retv rfl rfl ⟨rfl, t1, (oCn tz (oNx P), fun k => oVc P (F (oKt tz (oNx P) k)), fun k => oTt P al C K (oNx P) (oKt tz (oNx P) k), fun k => F (oKt tz (oNx P) k), oNx P, oCn al (oNx P), ocR P P.n), ⟨by show oCn tz (oNx P) ≤ 5000; omega, hR, t3, by rw [t2 0 (by decide)]; exact h0, by rw [t2 1 (by decide)]; exact h1, by rw [t2 3 (by decide)]; exact h3, fun i => P.pl (oRd P i), C, fun k => oDi P K (F (oKt tz (oNx P) k)), fun i hi => ?_, fun k hk => ?_⟩, ⟨fun k k' q1 q2 => ?_, fun k hk => ?_, fun x hx ha => ?_⟩, rfl, rfl, rfl⟩
      · have hi' : i < ocR P P.n := hi
        obtain ⟨r1, r2, -⟩ := oRd_sp hi'
        have hpl := (hP.2.2 _ r1).2.2 (by omega)
        obtain ⟨e1, e2, e3, -⟩ := h5 _ hpl
        have hwp : oW P (P.pl (oRd P i)) ≤ 12 := Nat.le_trans (ocW_le P _ P.n) hP.2.1
        exact ⟨hpl, by rw [t1 31 (by decide) (by decide)]; exact h4 i hi', e1, show C (P.pl (oRd P i)) ≤ 13 by omega, by rw [t1 32 (by decide) (by decide)]; exact e3⟩
      · have hk' : k < oCn tz (oNx P) := hk
        obtain ⟨a1, a2, a3⟩ := t5 k hk'
        obtain ⟨b1, b2, b3⟩ := ksp k hk'
        obtain ⟨c1, c2, c3, c4, c5⟩ := hF _ b1 b2
        have en : oNb (fun i => C (P.pl (oRd P i))) (oDi P K (F (oKt tz (oNx P) k))) (ocR P P.n) = oKt tz (oNx P) k := c4
        refine ⟨fun i hi => ?_, ?_, ?_, a2, a3⟩
        · have hi' : i < ocR P P.n := hi
          refine ⟨dig _ i hi', ?_⟩
          obtain ⟨r1, r2, -⟩ := oRd_sp hi'
          have hpl := (hP.2.2 _ r1).2.2 (by omega)
          show τ (34 + P.pl (oRd P i)) _ = _
          rw [t1 _ (by omega) (by omega)]
          exact val _ i hi'
        · show oNb (fun i => C (P.pl (oRd P i))) (oDi P K (F (oKt tz (oNx P) k))) (ocR P P.n) < 5000
          rw [en]; omega
        · show τ 30 k = nI (oNb (fun i => C (P.pl (oRd P i))) (oDi P K (F (oKt tz (oNx P) k))) (ocR P P.n))
          rw [en]; exact a1
      · have q2' : k' < oCn tz (oNx P) := q2
        obtain ⟨b1, b2, b3⟩ := ksp k (by omega)
        obtain ⟨d1, d2, d3⟩ := ksp k' q2'
        obtain ⟨c1, c2, c3, c4, c5⟩ := hF _ b1 b2
        obtain ⟨e1, e2, e3, e4, e5⟩ := hF _ d1 d2
        have hlt : oKt tz (oNx P) k < oKt tz (oNx P) k' := by
          rcases Nat.lt_or_ge (oKt tz (oNx P) k) (oKt tz (oNx P) k') with r | r
          · exact r
          · have := oCn_mono (f := tz) r
            omega
        have hl2 : oNn P C K (F (oKt tz (oNx P) k)) < oNn P C K (F (oKt tz (oNx P) k')) := by rw [c4, e4]; exact hlt
        obtain ⟨i, i1, i2, i3⟩ := oNb_lx (ocR P P.n) (dig _) (dig _) hl2
        refine ⟨i, i1, ?_, fun j hj => ?_⟩
        · show oVc P _ i < oVc P _ i
          rw [← val _ i i1, ← val _ i i1]
          exact so i i1 _ _ i2 (dig _ i i1)
        · show oVc P _ j = oVc P _ j
          rw [← val _ j (by omega), ← val _ j (by omega), i3 j hj]
      · have hk' : k < oCn tz (oNx P) := hk
        obtain ⟨b1, b2, b3⟩ := ksp k hk'
        obtain ⟨c1, c2, c3, c4, c5⟩ := hF _ b1 b2
        refine ⟨?_, c2, c3, oQ_rf, fun x hx q => ?_⟩
        · show oTt P al C K (oNx P) (oKt tz (oNx P) k) = _
          unfold oTt
          refine oCn_ext _ (fun x _ => ?_)
          show (al x && decide (oNn P C K x = oKt tz (oNx P) k)) = (al x && oQ (ocR P P.n) (oVc P x) (oVc P (F (oKt tz (oNx P) k))))
          congr 1
          rw [Bool.eq_iff_iff, same, decide_eq_true_eq, c4]
        · refine c5 x hx ⟨q.1, ?_⟩
          have := (same x _).mp q.2
          rw [this]; exact c4
      · have hvl := oNn_lt hP h5 x
        have hpos : 0 < oTt P al C K (oNx P) (oNn P C K x) := Nat.lt_of_le_of_lt (Nat.zero_le _) (oCn_lt (f := fun y => al y && decide (oNn P C K y = oNn P C K x)) hx (by rw [ha, decide_eq_true rfl]; rfl))
        have htx : tz (oNn P C K x) = true := (tzi _).mpr hpos
        refine ⟨oCn tz (oNn P C K x), oCn_lt hvl htx, ?_⟩
        show oQ (ocR P P.n) (oVc P x) (oVc P (F (oKt tz (oNx P) (oCn tz (oNn P C K x))))) = true
        rw [oKt_of hvl htx, same, (hF _ hvl htx).2.2.2.1]
    | succ d ih =>
      intro v τ hv t1 t2 t3 t4 t5
      have nv : ¬ (nI v < 0 ∨ 5000 ≤ (nI v).toNatClampNeg) := ox_ix (by omega) (by decide)
      have cv : (nI v).toNatClampNeg = v := nI_clamp (by omega)
      obtain ⟨b1, b2⟩ := h6 v (by omega)
      obtain ⟨b3, b4⟩ := t4 v (Nat.le_refl _) (by omega)
      have hTX : oTt P al C K (oNx P) v ≤ oNx P := oCn_le _ _
      have hcn := oCn_le tz v
      refine oT_N 4 rfl (oT_le (oNx P) v (by rw [t2 0 (by decide)]; exact h0) rfl (by omega) (by omega) (fun q => by omega) (fun _ => ?_))
      refine oT_N 3 rfl (oT_I (o := 28) (n := nI v) rfl (Or.inl ⟨rfl, by decide⟩) nv ?_)
      rw [cv, b3, b1]
      refine oT_N 1 rfl (oT_eq (oTt P al C K (oNx P) v) 0 rfl rfl (by omega) (by decide) (fun q => ?_) (fun q => ?_))
      · have hz : tz v = false := by
          cases e : tz v with
          | false => rfl
          | true => have := (tzi v).mp e; omega
        have e1 : oCn tz (v + 1) = oCn tz v := by simp [oCn, hz]
        have e2 : ∀ k, oKt tz (v + 1) k = oKt tz v k := fun k => by simp [oKt, hz]
        have e := ih (v + 1) τ (by omega) t1 t2 (by rw [e1]; exact t3) (fun v' q1 q2 => t4 v' (by omega) q2) (fun k hk => by rw [e2]; exact t5 k (by rw [← e1]; exact hk))
        rw [← ox_inc v] at e
        exact oT_N 2 rfl e
      · have hz : tz v = true := (tzi v).mpr (by omega)
        obtain ⟨c1, c2, c3, c4, c5⟩ := hF v (by omega) hz
        have e1 : oCn tz (v + 1) = oCn tz v + 1 := by simp [oCn, hz]
        have nm : ∀ τ' : ox_S, τ' 3 2 = nI (oCn tz v) → ¬ (τ' 3 2 < 0 ∨ 5000 ≤ (τ' 3 2).toNatClampNeg) := fun τ' q => by rw [q]; exact ox_ix (by omega) (by decide)
        have cm : (nI (oCn tz v)).toNatClampNeg = oCn tz v := nI_clamp (by omega)
        refine oT_N 5 rfl (oT_Is (o := 30) (n := τ 3 2) (x := nI v) rfl ⟨rfl, by decide⟩ (nm τ t3) ?_)
        rw [t3, cm]
        have f1 : ox_up τ 30 (oCn tz v) (nI v) 3 2 = nI (oCn tz v) := t3
        refine oT_N 7 rfl (oT_I (o := 28) (n := nI v) rfl (Or.inl ⟨rfl, by decide⟩) nv ?_)
        rw [cv, ox_up_ne (by decide), b3, b1]
        refine oT_Is (o := 28) (n := ox_up τ 30 (oCn tz v) (nI v) 3 2) (x := nI (oTt P al C K (oNx P) v)) rfl ⟨rfl, by decide⟩ (nm _ f1) ?_
        rw [f1, cm]
        have f2 : ox_up (ox_up τ 30 (oCn tz v) (nI v)) 28 (oCn tz v) (nI (oTt P al C K (oNx P) v)) 3 2 = nI (oCn tz v) := t3
        refine oT_N 7 rfl (oT_I (o := 29) (n := nI v) rfl (Or.inl ⟨rfl, by decide⟩) nv ?_)
        rw [cv, ox_up_ne (by decide), ox_up_ne (by decide), b4, c1]
        refine oT_Is (o := 29) (n := ox_up (ox_up τ 30 (oCn tz v) (nI v)) 28 (oCn tz v) (nI (oTt P al C K (oNx P) v)) 3 2) (x := nI (F v)) rfl ⟨rfl, by decide⟩ (nm _ f2) ?_
        rw [f2, cm]
        have f3 : ox_up (ox_up (ox_up τ 30 (oCn tz v) (nI v)) 28 (oCn tz v) (nI (oTt P al C K (oNx P) v))) 29 (oCn tz v) (nI (F v)) 3 2 = nI (oCn tz v) := t3
        have e := ih (v + 1) (ox_up (ox_up (ox_up (ox_up τ 30 (oCn tz v) (nI v)) 28 (oCn tz v) (nI (oTt P al C K (oNx P) v))) 29 (oCn tz v) (nI (F v))) 3 2 (ox_up (ox_up (ox_up τ 30 (oCn tz v) (nI v)) 28 (oCn tz v) (nI (oTt P al C K (oNx P) v))) 29 (oCn tz v) (nI (F v)) 3 2 + Int32.ofInt 1)) (by omega) (fun o q1 q2 => by rw [ox_up_ne q1, ox_up_ne (by omega), ox_up_ne (by omega), ox_up_ne (by omega)]; exact t1 o q1 q2) (fun q hq => by rw [ox_up_at, if_neg hq, ox_up_ne (by decide), ox_up_ne (by decide), ox_up_ne (by decide)]; exact t2 q hq) (by rw [ox_up_at, if_pos rfl, f3, ox_inc, e1]) (fun v' q1 q2 => by
          rw [ox_up_ne (by decide), ox_up_ne (by decide), ox_up_at, if_neg (by omega), ox_up_ne (by decide), ox_up_ne (by decide), ox_up_at, if_neg (by omega), ox_up_ne (by decide), ox_up_ne (by decide)]
          exact t4 v' (by omega) q2) (fun k hk => by
          rw [ox_up_ne (by decide), ox_up_ne (by decide), ox_up_ne (by decide), ox_up_at, ox_up_ne (by decide), ox_up_ne (by decide), ox_up_at, ox_up_ne (by decide), ox_up_ne (by decide), ox_up_at, ox_up_ne (by decide), ox_up_ne (by decide)]
          simp only [oKt]
          by_cases q : k = oCn tz v
          · rw [if_pos q, if_pos q, if_pos q, if_pos ⟨hz, q.symm⟩]
            exact ⟨rfl, rfl, rfl⟩
          · rw [if_neg q, if_neg q, if_neg q, if_neg (fun e => q e.2.symm)]
            exact t5 k (by omega))
        rw [← ox_inc v] at e
        exact oT_N 8 rfl e
  exact loop (oNx P) 0 σ (by omega) (fun _ _ _ => rfl) (fun _ _ => rfl) h2 (fun _ _ _ => ⟨rfl, rfl⟩) (fun k hk => absurd (show k < 0 from hk) (by omega))
end OYL
