/-- what only kinds and places make -/
theorem oPr_eq {P P' : oPr} (hI : oIr P' = oIr P) (hW : ∀ p, oIw P' p = oIw P p) (hn : P'.n = P.n) : ocR P' P'.n = ocR P P.n ∧ (∀ i, oRd P' i = oRd P i) ∧ (∀ p, oW P' p = oW P p) ∧ ∀ p j, oWr P' p j = oWr P p j := by
  refine ⟨?_, fun i => ?_, fun p => ?_, fun p j => ?_⟩
  · rw [ocR_cn, ocR_cn, hI, hn]
  · show oKt (oIr P') P'.n i = oKt (oIr P) P.n i
    rw [hI, hn]
  · show ocW P' p P'.n = ocW P p P.n
    rw [ocW_cn, ocW_cn, hW, hn]
  · show oKt (oIw P' p) P'.n j = oKt (oIw P p) P.n j
    rw [hW, hn]
section OYB
variable {L k : Nat} {σ : ox_S} {P : oPr} {M : oMo}
set_option maxHeartbeats 1000000 in
theorem ot_make {h a b : Int32} (hm : oCo σ M) (hk : 6 ≤ k) (hk9 : k ≤ 9) : oT L k 35 0 [some (.ref 0), some (.int h), some (.int a), some (.int b)] [] σ (fun o σ' => (oMg M h a b → M.R < 40 → ∀ h' a' b', h = nI h' → h' ≤ 5 → a = nI a' → a' < M.R → b' < M.R → (h' < 4 → b = nI b') → (4 ≤ h' → b' = a') → o = .inl (some (.int (nI M.R))) ∧ oCo σ' (oMk M h' a' b') ∧ oFC2 σ σ') ∧ (oMg M h a b → M.R = 40 → o = .inr 0 ∧ σ' = σ) ∧ (¬ oMg M h a b → o = .inr 1 ∧ σ' = σ)) := by
  obtain ⟨k, rfl⟩ : ∃ k', k = k' + 1 := ⟨k - 1, by omega⟩
  have hR := hm.1.2.1
  have h8 := hm.2.1
  generalize hPo : (fun (o : ox_O) (σ' : ox_S) => (oMg M h a b → M.R < 40 → ∀ h' a' b', h = nI h' → h' ≤ 5 → a = nI a' → a' < M.R → b' < M.R → (h' < 4 → b = nI b') → (4 ≤ h' → b' = a') → o = .inl (some (.int (nI M.R))) ∧ oCo σ' (oMk M h' a' b') ∧ oFC2 σ σ') ∧ (oMg M h a b → M.R = 40 → o = .inr 0 ∧ σ' = σ) ∧ (¬ oMg M h a b → o = .inr 1 ∧ σ' = σ)) = Post
  have bad : ¬ oMg M h a b → Post (.inr 1) σ := fun hb => by
    subst hPo
    exact ⟨fun q => absurd q hb, fun q => absurd q hb, fun _ => ⟨rfl, rfl⟩⟩
  have fine : oMg M h a b → oT L (k + 1) 35 64 [some (.ref 0), some (.int h), some (.int a), some (.int b)] [] σ Post := fun hg => by
    refine oT_N 5 rfl (oT_lt M.R 40 h8 rfl (by omega) (by decide) (fun q => ?_) (fun q => ?_))
    · obtain ⟨h', a', b', e1, e2, e3, e4, e5, e6, e7⟩ := oMg_nat hm.1 hg
      have add := ot_addRelation (L := L) (k := k) (h := h') (a := a') (b := b') (y := b) hm q e2 e4 e5 e6 e7 (by omega) (by omega)
      rw [← e1, ← e3] at add
      refine oT_N 5 rfl (oT_V rfl rfl rfl rfl (by omega) (by omega) add (fun x σ2 h => by cases h.1) (fun v σ3 hv => ?_))
      obtain ⟨hv0, hv1, hv2⟩ := hv
      cases hv0
      refine oT_Ret rfl rfl rfl ?_
      subst hPo
      refine ⟨fun _ _ h2 a2 b2 f1 f2 f3 f4 f5 f6 f7 => ⟨rfl, ?_, hv2⟩, fun _ q2 => by omega, fun q2 => absurd hg q2⟩
      have g1 : h2 = h' := (nI_eq (by omega) (by omega)).mp (by rw [← f1, e1])
      have g2 : a2 = a' := (nI_eq (by omega) (by omega)).mp (by rw [← f3, e3])
      have g3 : b2 = b' := by
        subst g1 g2
        rcases Nat.lt_or_ge h2 4 with r | r
        · exact (nI_eq (by omega) (by omega)).mp (by rw [← f6 r, e6 r])
        · rw [f7 r, e7 r]
      rw [g1, g2, g3]
      exact hv1
    · refine oT_T rfl (by decide) (by omega) (by omega) ?_
      subst hPo
      exact ⟨fun _ q2 => by omega, fun _ _ => ⟨rfl, rfl⟩, fun q2 => absurd hg q2⟩
  refine oT_N 2 rfl (oT_If (fun (q : h < 0) => oT_T rfl (by decide) (by omega) (by omega) (bad (fun g => Int32.not_le.mpr q g.1.1))) (fun (q1 : ¬ h < 0) => ?_))
  refine oT_N 3 rfl (oT_If (fun (q2 : h ≤ 5) => ?_) (fun (q : ¬ h ≤ 5) => oT_T rfl (by decide) (by omega) (by omega) (bad (fun g => q g.1.2))))
  refine oT_N 4 rfl (oT_S rfl rfl rfl (by omega) (by omega) ot_isBelow' (fun x σ2 h => by cases h.1) (fun v σ2 hv => ?_))
  obtain ⟨hv, rfl⟩ := hv
  cases hv
  refine oT_N 1 rfl (oT_if1 (fun (q : ¬ (0 ≤ a ∧ a < σ2 2 0)) => ?_) (fun (q3 : 0 ≤ a ∧ a < σ2 2 0) => ?_))
  · rw [h8] at q
    exact oT_T rfl (by decide) (by omega) (by omega) (bad (fun g => q g.2.1))
  rw [h8] at q3
  obtain ⟨e0, e1⟩ := ox_nat (Int32.not_lt.mp q1)
  have hh5 : h.toNatClampNeg ≤ 5 := by rw [e0] at q2; exact (nI_leI (b := 5) e1 (by decide)).mp q2
  have tt := ot_takesTwo (L := L) (k := k) (σ := σ2) hh5
  rw [← e0] at tt
  refine oT_N 1 rfl (oT_S rfl rfl rfl (by omega) (by omega) tt (fun x σ2 h => by cases h.1) (fun v σ3 hv => ?_))
  obtain ⟨hv, rfl⟩ := hv
  cases hv
  refine oT_N 1 rfl (oT_if1 (fun q4 => ?_) (fun q4 => ?_))
  · refine fine ⟨⟨Int32.not_lt.mp q1, q2⟩, q3, fun e => ?_⟩
    rw [e0] at e
    exact absurd ((nI_ltI (b := 4) e1 (by decide)).mp e) q4
  · have hlt : h < 4 := by rw [e0]; exact (nI_ltI (b := 4) e1 (by decide)).mpr q4
    refine oT_N 4 rfl (oT_S rfl rfl rfl (by omega) (by omega) ot_isBelow' (fun x σ2 h => by cases h.1) (fun v σ2 hv => ?_))
    obtain ⟨hv, rfl⟩ := hv
    cases hv
    refine oT_N 1 rfl (oT_if1 (fun (q : ¬ (0 ≤ b ∧ b < σ2 2 0)) => ?_) (fun (q5 : 0 ≤ b ∧ b < σ2 2 0) => ?_))
    · rw [h8] at q
      exact oT_T rfl (by decide) (by omega) (by omega) (bad (fun g => q (g.2.2 hlt)))
    · rw [h8] at q5
      exact fine ⟨⟨Int32.not_lt.mp q1, q2⟩, q3, fun _ => q5⟩
theorem ot_thread' (h : oC σ P) (hk : 6 ≤ k) (hk9 : k ≤ 9) : oT L k 32 0 [some (.ref 0)] [] σ (fun o σ' => (P.T < 4 → o = .inl (some (.int (nI P.T))) ∧ oC σ' (oTh P) ∧ oFC1 σ σ') ∧ (P.T = 4 → o = .inr 0 ∧ σ' = σ)) := by
  obtain ⟨⟨hT, hn, hok⟩, a2, a3, a4, a5, a6, a7, a8, a9⟩ := id h
  refine (ot_thread hk hk9).mono (fun o σ' q => ?_)
  rw [a2] at q
  by_cases e : P.T = 4
  · rw [if_neg (show ¬ nI P.T < 4 from fun q2 => by
      have := (nI_ltI (b := 4) (by omega) (by decide)).mp q2
      omega)] at q
    exact ⟨fun q2 => by omega, fun _ => q⟩
  · rw [if_pos (show nI P.T < 4 from (nI_ltI (b := 4) (by omega) (by decide)).mpr (by omega))] at q
    obtain ⟨q1, rfl⟩ := q
    obtain ⟨p1, p2, p3, p4⟩ := oPr_eq (P := P) (P' := oTh P) rfl (fun _ => rfl) rfl
    refine ⟨fun _ => ⟨?_, ⟨⟨by show P.T + 1 ≤ 4; omega, hn, fun e he => ⟨by have := (hok e he).1; show P.th e < P.T + 1; omega, (hok e he).2⟩⟩, ?_, ?_, ?_, ?_, ?_, ?_, ?_, ?_⟩, fun o o1 o2 => ?_⟩, fun q2 => absurd q2 e⟩
    · rw [q1]
      have : nI P.T + 1 - 1 = nI P.T := by rw [nI_1]; exact ox_sb1 _
      rw [this]
    · rw [ox_up_at, if_pos rfl, nI_1]
      rfl
    · rw [ox_up_at, if_neg (by decide)]; exact a3
    · rw [ox_up_at, if_neg (by decide), p1]; exact a4
    · exact a5
    · intro i hi
      rw [p1] at hi
      rw [p2, ox_up_ne (by decide)]; exact a6 i hi
    · intro p hp
      rw [p3, ox_up_ne (by decide)]; exact a7 p hp
    · exact a8
    · intro p hp j hj
      rw [p3] at hj
      rw [p4, ox_up_ne (by omega)]
      exact a9 p hp j hj
    · rw [ox_up_ne o1]
set_option maxHeartbeats 1000000 in
theorem ot_event {t w a v : Int32} (h : oC σ P) (hk : 6 ≤ k) (hk9 : k ≤ 9) : oT L k 33 0 [some (.ref 0), some (.int t), some (.int w), some (.int a), some (.int v)] [] σ (fun o σ' => (oEg P t w a → P.n < 12 → ∀ t' w' a', t = nI t' → t' < P.T → w = nI w' → w' ≤ 2 → (w' < 2 → a = nI a' ∧ a' < 4) → o = .inl (some (.int (nI P.n))) ∧ oC σ' (oEv P t' w' a' v) ∧ oFC1 σ σ') ∧ (oEg P t w a → P.n = 12 → o = .inr 0 ∧ σ' = σ) ∧ (¬ oEg P t w a → o = .inr 1 ∧ σ' = σ)) := by
  obtain ⟨k, rfl⟩ : ∃ k', k = k' + 1 := ⟨k - 1, by omega⟩
  obtain ⟨⟨hT, hn, hok⟩, a2, a3, -⟩ := id h
  generalize hPo : (fun (o : ox_O) (σ' : ox_S) => (oEg P t w a → P.n < 12 → ∀ t' w' a', t = nI t' → t' < P.T → w = nI w' → w' ≤ 2 → (w' < 2 → a = nI a' ∧ a' < 4) → o = .inl (some (.int (nI P.n))) ∧ oC σ' (oEv P t' w' a' v) ∧ oFC1 σ σ') ∧ (oEg P t w a → P.n = 12 → o = .inr 0 ∧ σ' = σ) ∧ (¬ oEg P t w a → o = .inr 1 ∧ σ' = σ)) = Post
  have bad : ¬ oEg P t w a → Post (.inr 1) σ := fun hb => by
    subst hPo
    exact ⟨fun q => absurd q hb, fun q => absurd q hb, fun _ => ⟨rfl, rfl⟩⟩
  have fine : oEg P t w a → oT L (k + 1) 33 71 [some (.ref 0), some (.int t), some (.int w), some (.int a), some (.int v)] [] σ Post := fun hg => by
    refine oT_N 5 rfl (oT_lt P.n 12 a3 rfl (by omega) (by decide) (fun q => ?_) (fun q => ?_))
    · obtain ⟨t', w', a', e1, e2, e3, e4, e5⟩ := oEg_nat h.1 hg
      have hap : ∀ a2, (w' < 2 → a = nI a2 ∧ a2 < 4) → oT L k 25 0 [some (.ref 1), some (.int t), some (.int w), some (.int a), some (.int v), none] [] σ (fun o σ' => o = .inl (some (.int (nI P.n))) ∧ oC σ' (oEv P t' w' a2 v) ∧ oFC1 σ σ') := fun a2 ha2 => by
        have app := ot_append (L := L) (k := k) (t := t') (w := w') (a := a2) (v := v) (x := a) h q e2 e4 ha2
        rw [← e1, ← e3] at app
        exact app
      -- the value does not matter where there is none
      have hall : oT L k 25 0 [some (.ref 1), some (.int t), some (.int w), some (.int a), some (.int v), none] [] σ (fun o σ' => o = .inl (some (.int (nI P.n))) ∧ (∀ a2, (w' < 2 → a = nI a2 ∧ a2 < 4) → oC σ' (oEv P t' w' a2 v)) ∧ oFC1 σ σ') := by
        refine (hap a' e5).mono (fun o σ' q => ⟨q.1, fun a2 ha2 => ?_, q.2.2⟩)
        rcases Nat.lt_or_ge w' 2 with r | r
        · have : a2 = a' := (nI_eq (by have := (ha2 r).2; omega) (by have := (e5 r).2; omega)).mp (by rw [← (ha2 r).1, (e5 r).1])
          rw [this]
          exact q.2.1
        · obtain ⟨b1, b2, b3, b4, b5, b6, b7, b8, b9⟩ := q.2.1
          obtain rfl : w' = 2 := by omega
          have eI : ∀ p, oIw (oEv P t' 2 a2 v) p = oIw (oEv P t' 2 a' v) p := fun p => by
            funext e
            unfold oIw
            show decide ((if e = P.n then 2 else P.kd e) = 1 ∧ (if e = P.n then a2 else P.pl e) = p) = decide ((if e = P.n then 2 else P.kd e) = 1 ∧ (if e = P.n then a' else P.pl e) = p)
            by_cases q9 : e = P.n
            · rw [if_pos q9, if_pos q9, if_pos q9]
              simp
            · rw [if_neg q9, if_neg q9, if_neg q9]
          obtain ⟨p1, p2, eW, eWr⟩ := oPr_eq (P := oEv P t' 2 a' v) (P' := oEv P t' 2 a2 v) rfl eI rfl
          refine ⟨oEv_ok h.1 (by omega) e2 (by omega) (fun q => by omega), b2, b3, ?_, fun e he => ?_, ?_, fun p hp => by rw [eW]; exact b7 p hp, fun p hp b hb => by rw [eI]; exact b8 p hp b hb, fun p hp j hj => by rw [eWr]; rw [eW] at hj; exact b9 p hp j hj⟩
          · rw [p1]; exact b4
          · obtain ⟨c1, c2, c3, c4⟩ := b5 e he
            refine ⟨c1, c2, ?_, c4⟩
            rw [c3]
            show (if (if e = P.n then 2 else P.kd e) < 2 then nI (if e = P.n then a' else P.pl e) else -1) = (if (if e = P.n then 2 else P.kd e) < 2 then nI (if e = P.n then a2 else P.pl e) else -1)
            by_cases q9 : e = P.n
            · rw [if_pos q9]
              rfl
            · rw [if_neg q9, if_neg q9, if_neg q9]
          · intro i hi
            rw [p1] at hi
            rw [p2]
            exact b6 i hi
      refine oT_N 6 rfl (oT_V rfl rfl rfl rfl (by omega) (by omega) hall (fun x σ2 h => by cases h.1) (fun v' σ3 hv => ?_))
      obtain ⟨hv0, hv1, hv2⟩ := hv
      cases hv0
      refine oT_Ret rfl rfl rfl ?_
      subst hPo
      refine ⟨fun _ _ t2 w2 a2 f1 f2 f3 f4 f5 => ⟨rfl, ?_, hv2⟩, fun _ q2 => by omega, fun q2 => absurd hg q2⟩
      have g1 : t2 = t' := (nI_eq (by omega) (by omega)).mp (by rw [← f1, e1])
      have g2 : w2 = w' := (nI_eq (by omega) (by omega)).mp (by rw [← f3, e3])
      subst g1 g2
      exact hv1 a2 f5
    · refine oT_T rfl (by decide) (by omega) (by omega) ?_
      subst hPo
      exact ⟨fun _ q2 => by omega, fun _ _ => ⟨rfl, rfl⟩, fun q2 => absurd hg q2⟩
  refine oT_N 4 rfl (oT_S rfl rfl rfl (by omega) (by omega) ot_isBelow' (fun x σ2 h => by cases h.1) (fun v σ2 hv => ?_))
  obtain ⟨hv, rfl⟩ := hv
  cases hv
  refine oT_N 1 rfl (oT_if1 (fun (q : ¬ (0 ≤ t ∧ t < σ2 1 0)) => ?_) (fun (q1 : 0 ≤ t ∧ t < σ2 1 0) => ?_))
  · rw [a2] at q
    exact oT_T rfl (by decide) (by omega) (by omega) (bad (fun g => q g.1))
  rw [a2] at q1
  -- a kind that is one
  have kind : 0 ≤ w ∧ w ≤ 2 → oT L (k + 1) 33 48 [some (.ref 0), some (.int t), some (.int w), some (.int a), some (.int v)] [] σ2 Post := fun hw => by
    refine oT_N 3 rfl (oT_If (fun (q : w = 2) => ?_) (fun (q : ¬ w = 2) => ?_))
    · exact fine ⟨q1, hw, fun e => by rw [q] at e; exact absurd e (by decide)⟩
    · have hlt : w < 2 := Int32.lt_of_le_of_ne hw.2 q
      refine oT_N 2 rfl (oT_S rfl rfl rfl (by omega) (by omega) ot_isBelow' (fun x σ2 h => by cases h.1) (fun v σ3 hv => ?_))
      obtain ⟨hv, rfl⟩ := hv
      cases hv
      refine oT_N 1 rfl (oT_if1 (fun (q2 : ¬ (0 ≤ a ∧ a < 4)) => ?_) (fun (q2 : 0 ≤ a ∧ a < 4) => fine ⟨q1, hw, fun _ => q2⟩))
      exact oT_T rfl (by decide) (by omega) (by omega) (bad (fun g => q2 (g.2.2 hlt)))
  refine oT_N 2 rfl (oT_If (fun (q : w = 0) => kind (by rw [q]; decide)) (fun (q2 : ¬ w = 0) => ?_))
  refine oT_N 3 rfl (oT_If (fun (q : w = 1) => kind (by rw [q]; decide)) (fun (q3 : ¬ w = 1) => ?_))
  refine oT_N 3 rfl (oT_If (fun (q : w = 2) => kind (by rw [q]; decide)) (fun (q4 : ¬ w = 2) => ?_))
  refine oT_T rfl (by decide) (by omega) (by omega) (bad (fun g => ?_))
  obtain ⟨e0, e1⟩ := ox_nat g.2.1.1
  have h2 := g.2.1.2
  rw [e0] at h2 q2 q3 q4
  have h3 := (nI_leI (b := 2) e1 (by decide)).mp h2
  rcases Nat.lt_or_ge w.toNatClampNeg 1 with r | r
  · exact q2 (by rw [show w.toNatClampNeg = 0 by omega]; rfl)
  · rcases Nat.lt_or_ge w.toNatClampNeg 2 with r2 | r2
    · exact q3 (by rw [show w.toNatClampNeg = 1 by omega]; rfl)
    · exact q4 (by rw [show w.toNatClampNeg = 2 by omega]; rfl)
end OYB
