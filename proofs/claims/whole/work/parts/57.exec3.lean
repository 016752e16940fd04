section OYFt
variable {L k n : Nat} {σ : ox_S} {P : oPr} {M : oMo}
theorem ot_fillRead0t {a : Nat} (h : oC σ P) (ha : a < P.n) (hka : P.kd a = 0) : oT L k 9 0 [some (.ref 4), some (.ref 1), some (.int (nI a)), some (.int (-1))] [] σ (fun o σ' => o = .inl none ∧ σ' = ox_up σ 80 a (σ 16 (P.pl a))) := by
  obtain ⟨⟨hT, hn, hok⟩, a2, a3, a4, a5, a6, a7, a8, a9⟩ := id h
  have na : ¬ (nI a < 0 ∨ 12 ≤ (nI a).toNatClampNeg) := ox_ix (by omega) (by decide)
  have ca : (nI a).toNatClampNeg = a := nI_clamp (by omega)
  have pla := (hok a ha).2.2 (by omega)
  refine oT_N 3 rfl (oT_If (fun _ => ?_) (fun q => absurd (show (-1 : Int32) = Int32.ofInt (-1) by decide) q))
  refine oT_N 3 rfl (oT_A (o := 76) (n := nI 3) rfl ⟨rfl, by decide⟩ (ox_ix (N := 40) (by decide) (by decide)) ?_)
  rw [show (nI 3).toNatClampNeg = 3 from rfl]
  refine oT_N 6 rfl (oT_I (o := 11) (n := nI a) rfl (Or.inl ⟨rfl, by decide⟩) na ?_)
  rw [ca, (a5 a ha).2.2.1, if_pos (show P.kd a < 2 by omega)]
  refine oT_I (o := 16) (n := nI (P.pl a)) rfl (Or.inl ⟨rfl, by decide⟩) (ox_ix (N := 4) (by omega) (by decide)) ?_
  rw [nI_clamp (by omega)]
  refine oT_Is (o := 80) (n := nI a) (x := σ 16 (P.pl a)) rfl ⟨rfl, by decide⟩ na ?_
  rw [ca]
  exact oT_Retv rfl rfl ⟨rfl, rfl⟩
theorem ot_fillRead1t {a w : Nat} (h : oC σ P) (ha : a < P.n) (hw : w < P.n) : oT L k 9 0 [some (.ref 4), some (.ref 1), some (.int (nI a)), some (.int (nI w))] [] σ (fun o σ' => o = .inl none ∧ (∀ o, o ≠ 78 → o ≠ 80 → o ≠ 81 → σ' o = σ o) ∧ (∀ q, σ' 80 q = if q = a then σ 79 w else σ 80 q) ∧ (∀ q y, y < 12 → (oBr σ' 78 q y = true ↔ oBr σ 78 q y = true ∨ (q = w ∧ y = a))) ∧ ∀ q y, y < 12 → (oBr σ' 81 q y = true ↔ oBr σ 81 q y = true ∨ (q = w ∧ y = a ∧ P.th w ≠ P.th a))) := by
  obtain ⟨⟨hT, hn, hok⟩, a2, a3, a4, a5, a6, a7, a8, a9⟩ := id h
  have na : ¬ (nI a < 0 ∨ 12 ≤ (nI a).toNatClampNeg) := ox_ix (by omega) (by decide)
  have ca : (nI a).toNatClampNeg = a := nI_clamp (by omega)
  have nw : ¬ (nI w < 0 ∨ 12 ≤ (nI w).toNatClampNeg) := ox_ix (by omega) (by decide)
  have cw : (nI w).toNatClampNeg = w := nI_clamp (by omega)
  have ta := (hok a ha).1
  have tw := (hok w hw).1
  have setb : ∀ (τ : ox_S) (o q y : Nat), y < 12 → (oBit (if q = w then τ o w ||| o1 a else τ o q) y = true ↔ oBr τ o q y = true ∨ (q = w ∧ y = a)) := fun τ o q y hy => by
    by_cases e : q = w
    · subst e
      rw [if_pos rfl, oBit_or, oBit_1 (by omega), Bool.or_eq_true, decide_eq_true_eq]
      exact ⟨fun q => q.imp id (fun q => ⟨rfl, q⟩), fun q => q.imp id (fun q => q.2)⟩
    · rw [if_neg e]
      exact ⟨Or.inl, fun q => q.elim id (fun q => absurd q.1 e)⟩
  refine oT_N 3 rfl (oT_If (fun (q : nI w = -1) => absurd (show nI w < 0 by rw [q]; decide) (nI_pos (by omega))) (fun _ => ?_))
  refine oT_N 3 rfl (oT_A (o := 76) (n := nI 3) rfl ⟨rfl, by decide⟩ (ox_ix (N := 40) (by decide) (by decide)) ?_)
  rw [show (nI 3).toNatClampNeg = 3 from rfl]
  refine oT_N 4 rfl (oT_A (o := 76) (n := nI 2) rfl ⟨rfl, by decide⟩ (ox_ix (N := 40) (by decide) (by decide)) ?_)
  rw [show (nI 2).toNatClampNeg = 2 from rfl]
  refine oT_N 1 rfl (oT_I (o := 79) (n := nI w) rfl (Or.inl ⟨rfl, by decide⟩) nw ?_)
  rw [cw]
  refine oT_Is (o := 80) (n := nI a) (x := σ 79 w) rfl ⟨rfl, by decide⟩ na ?_
  rw [ca]
  refine oT_N 3 rfl (oT_A (o := 76) (n := nI 1) rfl ⟨rfl, by decide⟩ (ox_ix (N := 40) (by decide) (by decide)) ?_)
  rw [show (nI 1).toNatClampNeg = 1 from rfl]
  refine oT_N 2 rfl (oT_I (o := 78) (n := nI w) rfl (Or.inl ⟨rfl, by decide⟩) nw ?_)
  rw [cw, ox_up_ne (by decide)]
  refine oT_N 4 rfl (oT_Is (o := 78) (n := nI w) (x := σ 78 w ||| o1 a) rfl ⟨rfl, by decide⟩ nw ?_)
  rw [cw]
  have u : ∀ o, o ≠ 78 → o ≠ 80 → ox_up (ox_up σ 80 a (σ 79 w)) 78 w (σ 78 w ||| o1 a) o = σ o := fun o q1 q2 => by rw [ox_up_ne q1, ox_up_ne q2]
  have u80 : ∀ q, ox_up (ox_up σ 80 a (σ 79 w)) 78 w (σ 78 w ||| o1 a) 80 q = if q = a then σ 79 w else σ 80 q := fun q => by rw [ox_up_ne (by decide), ox_up_at]
  have u78 : ∀ q, ox_up (ox_up σ 80 a (σ 79 w)) 78 w (σ 78 w ||| o1 a) 78 q = if q = w then σ 78 w ||| o1 a else σ 78 q := fun q => by rw [ox_up_at, ox_up_ne (by decide)]
  generalize ox_up (ox_up σ 80 a (σ 79 w)) 78 w (σ 78 w ||| o1 a) = τ at u u80 u78
  refine oT_N 3 rfl (oT_I (o := 9) (n := nI w) rfl (Or.inl ⟨rfl, by decide⟩) nw ?_)
  rw [cw, u 9 (by decide) (by decide), (a5 w hw).1]
  refine oT_N 3 rfl (oT_I (o := 9) (n := nI a) rfl (Or.inl ⟨rfl, by decide⟩) na ?_)
  rw [ca, u 9 (by decide) (by decide), (a5 a ha).1]
  refine oT_N 1 rfl (oT_eq (P.th w) (P.th a) rfl rfl (by omega) (by omega) (fun e => ?_) (fun e => ?_))
  · refine oT_Retv rfl rfl ⟨rfl, fun o q1 q2 _ => u o q1 q2, u80, fun q y hy => ?_, fun q y hy => ?_⟩
    · show oBit (τ 78 q) y = true ↔ _
      rw [u78]
      exact setb σ 78 q y hy
    · show oBit (τ 81 q) y = true ↔ _
      rw [u 81 (by decide) (by decide)]
      exact ⟨Or.inl, fun q1 => q1.elim id (fun q1 => absurd e q1.2.2)⟩
  · refine oT_N 3 rfl (oT_A (o := 76) (n := nI 4) rfl ⟨rfl, by decide⟩ (ox_ix (N := 40) (by decide) (by decide)) ?_)
    rw [show (nI 4).toNatClampNeg = 4 from rfl]
    refine oT_N 2 rfl (oT_I (o := 81) (n := nI w) rfl (Or.inl ⟨rfl, by decide⟩) nw ?_)
    rw [cw, u 81 (by decide) (by decide)]
    refine oT_N 4 rfl (oT_Is (o := 81) (n := nI w) (x := σ 81 w ||| o1 a) rfl ⟨rfl, by decide⟩ nw ?_)
    rw [cw]
    refine oT_Retv rfl rfl ⟨rfl, fun o q1 q2 q3 => by rw [ox_up_ne q3]; exact u o q1 q2, fun q => by rw [ox_up_ne (by decide)]; exact u80 q, fun q y hy => ?_, fun q y hy => ?_⟩
    · show oBit (ox_up τ 81 w _ 78 q) y = true ↔ _
      rw [ox_up_ne (by decide), u78]
      exact setb σ 78 q y hy
    · show oBit (ox_up τ 81 w _ 81 q) y = true ↔ _
      rw [ox_up_at, u 81 (by decide) (by decide), setb σ 81 q y hy]
      exact ⟨fun q1 => q1.imp id (fun q1 => ⟨q1.1, q1.2, e⟩), fun q1 => q1.imp id (fun q1 => ⟨q1.1, q1.2.1⟩)⟩
set_option maxHeartbeats 2000000 in
theorem ot_fillChosent {x : Nat} (h : oC σ P) (h0 : σ 4 0 = nI P.n) (h2 : σ 4 2 = nI (ocR P P.n)) (c69 : ∀ i, i < ocR P P.n → σ 69 i = oSc P x i) (c70 : ∀ p, p < 4 → σ 70 p = nI (oW P p)) (c72 : ∀ p j, p < 4 → j < oW P p → σ (72 + p) j = nI (oOd P x p j)) (hk : 2 ≤ k) (hk9 : k ≤ 9) : oT L k 8 0 [some (.ref 4), some (.ref 1), none, none, none, none] [] σ (fun o σ' => o = .inl none ∧ (∀ o, o < 78 ∨ 81 < o → σ' o = σ o) ∧ ∀ r, 1 ≤ r → r ≤ 4 → ∀ a b, a < P.n → b < P.n → oBr σ' (77 + r) a b = oGv P (oXs P x) r a b) := by
  obtain ⟨k, rfl⟩ : ∃ k', k = k' + 1 := ⟨k - 1, by omega⟩
  obtain ⟨⟨hT, hn, hok⟩, a2, a3, a4, a5, a6, a7, a8, a9⟩ := id h
  have hw : ∀ p, oW P p ≤ 12 := fun p => Nat.le_trans (ocW_le P p P.n) hn
  have hR := ocR_le P P.n
  -- the reads
  have reads : ∀ (d i : Nat) (τ : ox_S) (l3 l4 l5 : Option Value), i + d = ocR P P.n → (∀ o, o < 78 ∨ 81 < o → τ o = σ o) → (∀ a b, a < P.n → b < P.n → (oBr τ 79 a b = true ↔ oGv P (oXs P x) 2 a b = true)) → (∀ a b, a < P.n → b < P.n → (oBr τ 78 a b = true ↔ oGv P (oXs P x) 1 a b = true ∧ ocR P b < i)) → (∀ a b, a < P.n → b < P.n → (oBr τ 81 a b = true ↔ oGv P (oXs P x) 4 a b = true ∧ ocR P b < i)) → (∀ a b, a < P.n → b < P.n → (oBr τ 80 a b = true ↔ oGv P (oXs P x) 3 a b = true ∧ ocR P a < i)) → oT L (k + 1) 8 104 [some (.ref 4), some (.ref 1), some (.int (nI i)), l3, l4, l5] [] τ (fun o σ' => o = .inl none ∧ (∀ o, o < 78 ∨ 81 < o → σ' o = σ o) ∧ ∀ r, 1 ≤ r → r ≤ 4 → ∀ a b, a < P.n → b < P.n → oBr σ' (77 + r) a b = oGv P (oXs P x) r a b) := by
    intro d
    induction d with
    | zero =>
      intro i τ l3 l4 l5 hi g0 g2 g1 g4 g3
      refine oT_N 4 rfl (oT_le (ocR P P.n) i (by rw [g0 4 (by decide)]; exact h2) rfl (by omega) (by omega) (fun _ => ?_) (fun q => by omega))
      refine oT_Retv rfl rfl ⟨rfl, g0, fun r r1 r2 a b ha hb => Bool.eq_iff_iff.mpr ?_⟩
      have hc : r = 1 ∨ r = 2 ∨ r = 3 ∨ r = 4 := by omega
      rcases hc with rfl | rfl | rfl | rfl
      · refine (g1 a b ha hb).trans ⟨fun q => q.1, fun q => ⟨q, ?_⟩⟩
        have := (oRd_of hb (oGv_1.mp q).1).2
        omega
      · exact g2 a b ha hb
      · refine (g3 a b ha hb).trans ⟨fun q => q.1, fun q => ⟨q, ?_⟩⟩
        have := (oRd_of ha (oGv_3.mp q).1).2
        omega
      · refine (g4 a b ha hb).trans ⟨fun q => q.1, fun q => ⟨q, ?_⟩⟩
        have := (oRd_of hb (oGv_4.mp q).1.1).2
        omega
    | succ d ih =>
      intro i τ l3 l4 l5 hi g0 g2 g1 g4 g3
      have ci : (nI i).toNatClampNeg = i := nI_clamp (by omega)
      have ni : ¬ (nI i < 0 ∨ 12 ≤ (nI i).toNatClampNeg) := ox_ix (by omega) (by decide)
      obtain ⟨r1, r2, r3⟩ := oRd_sp (P := P) (i := i) (by omega)
      have hC : oC τ P := oC_ext h (g0 1 (by decide)) (fun o q1 q2 => g0 o (by omega))
      have uni : ∀ b, b < P.n → P.kd b = 0 → ocR P b = i → b = oRd P i := fun b hb hk e => by rw [← e]; exact (oRd_of hb hk).1.symm
      refine oT_N 4 rfl (oT_le (ocR P P.n) i (by rw [g0 4 (by decide)]; exact h2) rfl (by omega) (by omega) (fun q => by omega) (fun _ => ?_))
      refine oT_N 5 rfl (oT_I (o := 14) (n := nI i) rfl (Or.inl ⟨rfl, by decide⟩) ni ?_)
      rw [ci, g0 14 (by decide), a6 i (by omega)]
      refine oT_N 3 rfl (oT_I (o := 69) (n := nI i) rfl (Or.inl ⟨rfl, by decide⟩) ni ?_)
      rw [ci, g0 69 (by decide), c69 i (by omega)]
      have step : ∀ τ' : ox_S, (∀ o, o < 78 ∨ 81 < o → τ' o = σ o) → (∀ a b, a < P.n → b < P.n → (oBr τ' 79 a b = true ↔ oGv P (oXs P x) 2 a b = true)) → (∀ a b, a < P.n → b < P.n → (oBr τ' 78 a b = true ↔ oBr τ 78 a b = true ∨ (b = oRd P i ∧ oSc P x i = nI a))) → (∀ a b, a < P.n → b < P.n → (oBr τ' 81 a b = true ↔ oBr τ 81 a b = true ∨ (b = oRd P i ∧ oSc P x i = nI a ∧ P.th a ≠ P.th b))) → (∀ a b, a < P.n → b < P.n → (oBr τ' 80 a b = true ↔ if a = oRd P i then oGv P (oXs P x) 3 a b = true else oBr τ 80 a b = true)) → oT L (k + 1) 8 129 [some (.ref 4), some (.ref 1), some (.int (nI i)), l3, l4, l5] [] τ' (fun o σ' => o = .inl none ∧ (∀ o, o < 78 ∨ 81 < o → σ' o = σ o) ∧ ∀ r, 1 ≤ r → r ≤ 4 → ∀ a b, a < P.n → b < P.n → oBr σ' (77 + r) a b = oGv P (oXs P x) r a b) := fun τ' s0 s2 s1 s4 s3 => by
        have e := ih (i + 1) τ' l3 l4 l5 (by omega) s0 s2 (fun a b ha hb => by
          rw [s1 a b ha hb, g1 a b ha hb, oGv_1]
          constructor
          · rintro (q | ⟨q1, q2⟩)
            · exact ⟨q.1, by omega⟩
            · rw [q1, r3]
              exact ⟨⟨r2, q2⟩, by omega⟩
          · rintro ⟨q1, q2⟩
            rcases Nat.lt_or_ge (ocR P b) i with q3 | q3
            · exact Or.inl ⟨q1, q3⟩
            · have e1 : ocR P b = i := by omega
              exact Or.inr ⟨uni b hb q1.1 e1, by rw [← e1]; exact q1.2⟩) (fun a b ha hb => by
          rw [s4 a b ha hb, g4 a b ha hb, oGv_4]
          constructor
          · rintro (q | ⟨q1, q2, q3⟩)
            · exact ⟨q.1, by omega⟩
            · rw [q1] at q3 ⊢
              rw [r3]
              exact ⟨⟨⟨r2, q2⟩, q3⟩, by omega⟩
          · rintro ⟨q1, q2⟩
            rcases Nat.lt_or_ge (ocR P b) i with q3 | q3
            · exact Or.inl ⟨q1, q3⟩
            · have e1 : ocR P b = i := by omega
              exact Or.inr ⟨uni b hb q1.1.1 e1, by rw [← e1]; exact q1.1.2, q1.2⟩) (fun a b ha hb => by
          rw [s3 a b ha hb]
          by_cases e1 : a = oRd P i
          · rw [if_pos e1]
            exact ⟨fun q => ⟨q, by rw [e1, r3]; omega⟩, fun q => q.1⟩
          · rw [if_neg e1, g3 a b ha hb]
            refine ⟨fun q => ⟨q.1, by omega⟩, fun q => ⟨q.1, ?_⟩⟩
            rcases Nat.lt_or_ge (ocR P a) i with q3 | q3
            · exact q3
            · exact absurd (uni a ha (oGv_3.mp q.1).1 (by omega)) e1)
        rw [← ox_inc i] at e
        exact oT_N 2 rfl e
      rcases oSc_or (P := P) (x := x) (i := i) with ⟨p1, p2⟩ | ⟨p1, p2, p3⟩
      · rw [p2]
        refine oT_V rfl rfl rfl rfl (by omega) (by omega) (ot_fillRead0t hC r1 r2) (fun x σ2 h => by cases h.1) (fun v σ2 hv => ?_)
        obtain ⟨hv, rfl⟩ := hv
        cases hv
        have hpl := (hok _ r1).2.2 (by omega)
        have hno : ∀ a, a < P.n → oSc P x i ≠ nI a := fun a ha e => by
          rw [p2] at e
          exact nI_pos (n := a) (by omega) (by rw [← e]; decide)
        refine step _ (fun o ho => by rw [ox_up_ne (by omega)]; exact g0 o ho) (fun a b ha hb => ?_) (fun a b ha hb => ?_) (fun a b ha hb => ?_) (fun a b ha hb => ?_)
        · show oBit (ox_up τ 80 _ _ 79 a) b = true ↔ _
          rw [ox_up_ne (by decide)]
          exact g2 a b ha hb
        · show oBit (ox_up τ 80 _ _ 78 a) b = true ↔ _
          rw [ox_up_ne (by decide)]
          exact ⟨Or.inl, fun q => q.elim id (fun q => absurd q.2 (hno a ha))⟩
        · show oBit (ox_up τ 80 _ _ 81 a) b = true ↔ _
          rw [ox_up_ne (by decide)]
          exact ⟨Or.inl, fun q => q.elim id (fun q => absurd q.2.1 (hno a ha))⟩
        · show oBit (ox_up τ 80 (oRd P i) (τ 16 (P.pl (oRd P i))) 80 a) b = true ↔ _
          rw [ox_up_at]
          by_cases e : a = oRd P i
          · rw [if_pos e, if_pos e, g0 16 (by decide), a8 _ hpl b (by omega), decide_eq_true hb, Bool.true_and, oGv_3, e, r3, p2]
            unfold oIw
            rw [decide_eq_true_eq]
            exact ⟨fun q => ⟨r2, q.1, q.2.symm, Or.inl (by decide)⟩, fun q => ⟨q.2.1, q.2.2.1.symm⟩⟩
          · rw [if_neg e, if_neg e]
            exact Iff.rfl
      · obtain ⟨w1, w2, w3, -⟩ := oWr_sp p2
        rw [p3]
        generalize oWr P (P.pl (oRd P i)) (oPk P x i - 1) = w at w1 w2 w3 p3
        refine oT_V rfl rfl rfl rfl (by omega) (by omega) (ot_fillRead1t hC r1 w1) (fun x σ2 h => by cases h.1) (fun v σ2 hv => ?_)
        obtain ⟨hv, v0, v80, v78, v81⟩ := hv
        cases hv
        have hsc : ∀ a, a < P.n → (oSc P x i = nI a ↔ a = w) := fun a ha => by
          rw [p3]
          exact ⟨fun q => ((nI_eq (by omega) (by omega)).mp q).symm, fun q => by rw [q]⟩
        refine step σ2 (fun o ho => by rw [v0 o (by omega) (by omega) (by omega)]; exact g0 o ho) (fun a b ha hb => ?_) (fun a b ha hb => ?_) (fun a b ha hb => ?_) (fun a b ha hb => ?_)
        · show oBit (σ2 79 a) b = true ↔ _
          rw [v0 79 (by decide) (by decide) (by decide)]
          exact g2 a b ha hb
        · rw [v78 a b (by omega), hsc a ha]
          exact ⟨fun q => q.imp id (fun q => ⟨q.2, q.1⟩), fun q => q.imp id (fun q => ⟨q.2, q.1⟩)⟩
        · rw [v81 a b (by omega), hsc a ha]
          refine ⟨fun q => q.imp id (fun q => ⟨q.2.1, q.1, by rw [q.1, q.2.1]; exact q.2.2⟩), fun q => q.imp id (fun q => ⟨q.2.1, q.1, by have := q.2.2; rw [q.2.1, q.1] at this; exact this⟩)⟩
        · show oBit (σ2 80 a) b = true ↔ _
          rw [v80]
          by_cases e : a = oRd P i
          · rw [if_pos e, if_pos e, show oBit (τ 79 w) b = true ↔ _ from g2 w b w1 hb, oGv_2, oGv_3, e, r3, p3, nI_clamp (by omega), w3]
            constructor
            · rintro ⟨-, q2, q3, q4⟩
              exact ⟨r2, q2, q3, Or.inr q4⟩
            · rintro ⟨-, q2, q3, q4⟩
              exact ⟨w2, q2, q3, q4.elim (fun q => absurd q (nI_pos (by omega))) id⟩
          · rw [if_neg e, if_neg e]
            exact Iff.rfl
  -- the places
  have places : ∀ (d p : Nat) (τ : ox_S) (l3 l4 l5 : Option Value), p + d = 4 → (∀ o, o < 78 ∨ 81 < o → τ o = σ o) → (∀ a b, a < P.n → b < 12 → (oBr τ 79 a b = true ↔ ∃ p' j j', p' < p ∧ j < j' ∧ j' < oW P p' ∧ a = oOd P x p' j ∧ b = oOd P x p' j')) → (∀ a, a < P.n → τ 78 a = 0 ∧ τ 80 a = 0 ∧ τ 81 a = 0) → oT L (k + 1) 8 40 [some (.ref 4), some (.ref 1), some (.int (nI p)), l3, l4, l5] [] τ (fun o σ' => o = .inl none ∧ (∀ o, o < 78 ∨ 81 < o → σ' o = σ o) ∧ ∀ r, 1 ≤ r → r ≤ 4 → ∀ a b, a < P.n → b < P.n → oBr σ' (77 + r) a b = oGv P (oXs P x) r a b) := by
    intro d
    induction d with
    | zero =>
      intro p τ l3 l4 l5 hp g0 g2 gz
      obtain rfl : p = 4 := by omega
      refine oT_N 3 rfl (oT_le 4 4 rfl rfl (by decide) (by decide) (fun _ => ?_) (fun q => by omega))
      refine oT_N 2 rfl (reads (ocR P P.n) 0 τ l3 l4 l5 (by omega) g0 (fun a b ha hb => ?_) (fun a b ha hb => ?_) (fun a b ha hb => ?_) (fun a b ha hb => ?_))
      · rw [g2 a b ha (by omega)]
        exact oGv_2p ⟨hT, hn, hok⟩ ha hb
      · unfold oBr
        rw [(gz a ha).1, oBit_0]
        exact ⟨fun q => (by cases q), fun q => by omega⟩
      · unfold oBr
        rw [(gz a ha).2.2, oBit_0]
        exact ⟨fun q => (by cases q), fun q => by omega⟩
      · unfold oBr
        rw [(gz a ha).2.1, oBit_0]
        exact ⟨fun q => (by cases q), fun q => by omega⟩
    | succ d ih =>
      intro p τ l3 l4 l5 hp g0 g2 gz
      have np : ¬ (nI p < 0 ∨ 4 ≤ (nI p).toNatClampNeg) := ox_ix (by omega) (by decide)
      have cp : (nI p).toNatClampNeg = p := nI_clamp (by omega)
      have r72 : oRw (72 + p) := by have := oRw_72 p (by omega); first | exact this.1 | exact this.2
      have hwp := hw p
      refine oT_N 3 rfl (oT_le 4 p rfl rfl (by decide) (by omega) (fun q => by omega) (fun _ => ?_))
      refine oT_N 5 rfl (oT_I (o := 70) (n := nI p) rfl (Or.inl ⟨rfl, by decide⟩) np ?_)
      rw [cp, g0 70 (by decide), c70 p (by omega)]
      have inner : ∀ (i : Nat) (m : Int32) (τ' : ox_S) (l5 : Option Value), i ≤ oW P p → (∀ o, o < 78 ∨ 81 < o → τ' o = σ o) → (∀ a b, a < P.n → b < 12 → (oBr τ' 79 a b = true ↔ ∃ p' j j', (p' < p ∨ (p' = p ∧ i ≤ j)) ∧ j < j' ∧ j' < oW P p' ∧ a = oOd P x p' j ∧ b = oOd P x p' j')) → (∀ a, a < P.n → τ' 78 a = 0 ∧ τ' 80 a = 0 ∧ τ' 81 a = 0) → (∀ y, oBit m y = true ↔ ∃ j, i ≤ j ∧ j < oW P p ∧ y = oOd P x p j) → oT L (k + 1) 8 57 [some (.ref 4), some (.ref 1), some (.int (nI p)), some (.int m), some (.int (nI i + Int32.ofInt (-1))), l5] [] τ' (fun o σ' => o = .inl none ∧ (∀ o, o < 78 ∨ 81 < o → σ' o = σ o) ∧ ∀ r, 1 ≤ r → r ≤ 4 → ∀ a b, a < P.n → b < P.n → oBr σ' (77 + r) a b = oGv P (oXs P x) r a b) := by
        intro i
        induction i with
        | zero =>
          intro m τ' l5 hi f0 f2 fz fm
          refine oT_N 2 rfl (oT_If (fun _ => ?_) (fun (q : ¬ nI 0 + Int32.ofInt (-1) < 0) => absurd ox_dc0 q))
          have e := ih (p + 1) τ' (some (.int m)) (some (.int (nI 0 + Int32.ofInt (-1)))) l5 (by omega) f0 (fun a b ha hb => by
            rw [f2 a b ha hb]
            constructor
            · rintro ⟨p', j, j', q1, q2⟩
              exact ⟨p', j, j', by omega, q2⟩
            · rintro ⟨p', j, j', q1, q2⟩
              exact ⟨p', j, j', by omega, q2⟩) fz
          rw [← ox_inc p] at e
          exact oT_N 2 rfl e
        | succ i ihi =>
          intro m τ' l5 hi f0 f2 fz fm
          rw [ox_dec]
          have ci : (nI i).toNatClampNeg = i := nI_clamp (by omega)
          obtain ⟨ow1, ow2, ow3⟩ := oOd_w (P := P) (x := x) (p := p) (i := i) (by omega)
          have ne : ¬ (nI (oOd P x p i) < 0 ∨ 12 ≤ (nI (oOd P x p i)).toNatClampNeg) := ox_ix (by omega) (by decide)
          have ce : (nI (oOd P x p i)).toNatClampNeg = oOd P x p i := nI_clamp (by omega)
          refine oT_N 2 rfl (oT_lt i 0 rfl rfl (by omega) (by decide) (fun q => by omega) (fun _ => ?_))
          refine oT_N 3 rfl (oT_A (o := 71) (n := nI p) rfl ⟨rfl, by decide⟩ np ?_)
          rw [cp]
          refine oT_N 1 rfl (oT_I (o := 72 + p) (n := nI i) rfl (Or.inl ⟨r72.1, r72.2.1⟩) (ox_ixL r72.2.1 r72.2.2 (by omega) (by decide)) ?_)
          rw [ci, f0 (72 + p) (by omega), c72 p i (by omega) (by omega)]
          refine oT_N 4 rfl (oT_A (o := 76) (n := nI 2) rfl ⟨rfl, by decide⟩ (ox_ix (N := 40) (by decide) (by decide)) ?_)
          rw [show (nI 2).toNatClampNeg = 2 from rfl]
          refine oT_N 2 rfl (oT_Is (o := 79) (n := nI (oOd P x p i)) (x := m) rfl ⟨rfl, by decide⟩ ne ?_)
          rw [ce]
          have e := ihi (m ||| o1 (oOd P x p i)) (ox_up τ' 79 (oOd P x p i) m) (some (.int (nI (oOd P x p i)))) (by omega) (fun o ho => by rw [ox_up_ne (by omega)]; exact f0 o ho) (fun a b ha hb => by
            show oBit (ox_up τ' 79 (oOd P x p i) m 79 a) b = true ↔ _
            rw [ox_up_at]
            by_cases e : a = oOd P x p i
            · rw [if_pos e, fm b]
              constructor
              · rintro ⟨j, q1, q2, q3⟩
                exact ⟨p, i, j, Or.inr ⟨rfl, Nat.le_refl _⟩, by omega, q2, e, q3⟩
              · rintro ⟨p', j, j', q1, q2, q3, q4, q5⟩
                have ep : p' = p := by
                  have := (oOd_w (P := P) (x := x) (p := p') (i := j) (by omega)).2.2
                  rw [← q4, e, ow3] at this
                  exact this.symm
                subst ep
                have ej : j = i := oOd_inj (P := P) (x := x) (p := p') (by omega) (by omega) (by rw [← q4, e])
                exact ⟨j', by omega, q3, q5⟩
            · rw [if_neg e]
              refine (f2 a b ha hb).trans ⟨?_, ?_⟩
              · rintro ⟨p', j, j', q1, q2⟩
                exact ⟨p', j, j', by omega, q2⟩
              · rintro ⟨p', j, j', q1, q2, q3, q4, q5⟩
                refine ⟨p', j, j', ?_, q2, q3, q4, q5⟩
                rcases q1 with q1 | q1
                · exact Or.inl q1
                · rcases Nat.lt_or_ge i j with q6 | q6
                  · exact Or.inr ⟨q1.1, q6⟩
                  · have : j = i := by omega
                    rw [this, q1.1] at q4
                    exact absurd q4 e) (fun a ha => by rw [ox_up_ne (by decide), ox_up_ne (by decide), ox_up_ne (by decide)]; exact fz a ha) (fun y => by
            rw [oBit_or, oBit_1 (by omega), Bool.or_eq_true, decide_eq_true_eq, fm y]
            constructor
            · rintro (⟨j, q1, q2, q3⟩ | q1)
              · exact ⟨j, by omega, q2, q3⟩
              · exact ⟨i, Nat.le_refl _, by omega, q1⟩
            · rintro ⟨j, q1, q2, q3⟩
              rcases Nat.lt_or_ge i j with q6 | q6
              · exact Or.inl ⟨j, q6, q2, q3⟩
              · have : j = i := by omega
                rw [this] at q3
                exact Or.inr q3)
          exact oT_N 8 rfl e
      have e := inner (oW P p) 0 τ l5 (Nat.le_refl _) g0 (fun a b ha hb => by
        rw [g2 a b ha hb]
        constructor
        · rintro ⟨p', j, j', q1, q2⟩
          exact ⟨p', j, j', Or.inl q1, q2⟩
        · rintro ⟨p', j, j', q1, q2, q3, q4⟩
          refine ⟨p', j, j', ?_, q2, q3, q4⟩
          rcases q1 with q1 | ⟨rfl, q1⟩
          · exact q1
          · omega) gz (fun y => ⟨fun q => (by rw [oBit_0] at q; cases q), fun ⟨j, q1, q2, _⟩ => by omega⟩)
      rw [← ox_sub1] at e
      exact oT_N 3 rfl e
  -- the rows are emptied
  refine oT_N 2 rfl ?_
  have empty : ∀ (d a : Nat) (τ : ox_S) (l3 : Option Value), a + d = P.n → (∀ o, o < 78 ∨ 81 < o → τ o = σ o) → (∀ r, 1 ≤ r → r ≤ 4 → ∀ y, y < a → τ (77 + r) y = 0) → oT L (k + 1) 8 2 [some (.ref 4), some (.ref 1), some (.int (nI a)), l3, none, none] [] τ (fun o σ' => o = .inl none ∧ (∀ o, o < 78 ∨ 81 < o → σ' o = σ o) ∧ ∀ r, 1 ≤ r → r ≤ 4 → ∀ a b, a < P.n → b < P.n → oBr σ' (77 + r) a b = oGv P (oXs P x) r a b) := by
    intro d
    induction d with
    | zero =>
      intro a τ l3 ha g0 g1
      obtain rfl : a = P.n := by omega
      refine oT_N 4 rfl (oT_le P.n P.n (by rw [g0 4 (by decide)]; exact h0) rfl (by omega) (by omega) (fun _ => ?_) (fun q => by omega))
      refine oT_N 2 rfl (places 4 0 τ l3 none none (by omega) g0 (fun a b ha hb => ?_) (fun y hy => ⟨g1 1 (by decide) (by decide) y hy, g1 3 (by decide) (by decide) y hy, g1 4 (by decide) (by decide) y hy⟩))
      have hz : τ 79 a = 0 := g1 2 (by decide) (by decide) a ha
      unfold oBr
      rw [hz, oBit_0]
      exact ⟨fun q => (by cases q), fun ⟨p', j, j', q1, _⟩ => by omega⟩
    | succ d ih =>
      intro a τ l3 ha g0 g1
      have na : ¬ (nI a < 0 ∨ 12 ≤ (nI a).toNatClampNeg) := ox_ix (by omega) (by decide)
      have ca : (nI a).toNatClampNeg = a := nI_clamp (by omega)
      refine oT_N 4 rfl (oT_le P.n a (by rw [g0 4 (by decide)]; exact h0) rfl (by omega) (by omega) (fun q => by omega) (fun _ => ?_))
      have zero : ∀ (d r : Nat) (τ' : ox_S), r + d = 5 → 1 ≤ r → (∀ o, o < 78 ∨ 81 < o → τ' o = σ o) → (∀ r', 1 ≤ r' → r' ≤ 4 → ∀ y, y < a → τ' (77 + r') y = 0) → (∀ r', 1 ≤ r' → r' < r → τ' (77 + r') a = 0) → oT L (k + 1) 8 12 [some (.ref 4), some (.ref 1), some (.int (nI a)), some (.int (nI r)), none, none] [] τ' (fun o σ' => o = .inl none ∧ (∀ o, o < 78 ∨ 81 < o → σ' o = σ o) ∧ ∀ r, 1 ≤ r → r ≤ 4 → ∀ a b, a < P.n → b < P.n → oBr σ' (77 + r) a b = oGv P (oXs P x) r a b) := by
        intro d
        induction d with
        | zero =>
          intro r τ' hr h1 f0 f1 f2
          refine oT_N 3 rfl (oT_lt 4 r rfl rfl (by decide) (by omega) (fun _ => ?_) (fun q => by omega))
          have e := ih (a + 1) τ' (some (.int (nI r))) (by omega) f0 (fun r' q1 q2 y hy => by
            rcases Nat.lt_or_ge y a with q3 | q3
            · exact f1 r' q1 q2 y q3
            · obtain rfl : y = a := by omega
              exact f2 r' q1 (by omega))
          rw [← ox_inc a] at e
          exact oT_N 2 rfl e
        | succ d ihr =>
          intro r τ' hr h1 f0 f1 f2
          have rr : oRw (77 + r) := by have := oRw_77 r (by omega); first | exact this.1 | exact this.2
          refine oT_N 3 rfl (oT_lt 4 r rfl rfl (by decide) (by omega) (fun q => by omega) (fun _ => ?_))
          refine oT_N 3 rfl (oT_A (o := 76) (n := nI r) rfl ⟨rfl, by decide⟩ (ox_ix (N := 40) (by omega) (by decide)) ?_)
          rw [nI_clamp (show r < 2 ^ 31 by omega)]
          refine oT_N 2 rfl (oT_Is (o := 77 + r) (n := nI a) (x := 0) rfl ⟨rr.1, rr.2.1⟩ (ox_ixL rr.2.1 rr.2.2 (by omega) (by decide)) ?_)
          rw [ca]
          have e := ihr (r + 1) (ox_up τ' (77 + r) a 0) (by omega) (by omega) (fun o ho => by rw [ox_up_ne (by omega)]; exact f0 o ho) (fun r' q1 q2 y hy => by
            by_cases e2 : r' = r
            · subst e2
              rw [ox_up_at, if_neg (by omega)]
              exact f1 r' q1 q2 y hy
            · rw [ox_up_ne (by omega)]
              exact f1 r' q1 q2 y hy) (fun r' q1 q2 => by
            by_cases e2 : r' = r
            · subst e2
              rw [ox_up_at, if_pos rfl]
            · rw [ox_up_ne (by omega)]
              exact f2 r' q1 (by omega))
          rw [← ox_inc r] at e
          exact oT_N 2 rfl e
      exact oT_N 2 rfl (zero 4 1 τ (by omega) (by omega) g0 g1 (fun r' q1 q2 => by omega))
  exact empty P.n 0 σ none (by omega) (fun _ _ => rfl) (fun r _ _ y hy => by omega)
end OYFt

section OYFs
variable {L k n : Nat} {σ : ox_S} {P : oPr} {M : oMo}
theorem ot_fillRead0s {a : Nat} (h : oC σ P) (ha : a < P.n) (hka : P.kd a = 0) : oT L k 9 0 [some (.ref 5), some (.ref 1), some (.int (nI a)), some (.int (-1))] [] σ (fun o σ' => o = .inl none ∧ σ' = ox_up σ 133 a (σ 16 (P.pl a))) := by
  obtain ⟨⟨hT, hn, hok⟩, a2, a3, a4, a5, a6, a7, a8, a9⟩ := id h
  have na : ¬ (nI a < 0 ∨ 12 ≤ (nI a).toNatClampNeg) := ox_ix (by omega) (by decide)
  have ca : (nI a).toNatClampNeg = a := nI_clamp (by omega)
  have pla := (hok a ha).2.2 (by omega)
  refine oT_N 3 rfl (oT_If (fun _ => ?_) (fun q => absurd (show (-1 : Int32) = Int32.ofInt (-1) by decide) q))
  refine oT_N 3 rfl (oT_A (o := 129) (n := nI 3) rfl ⟨rfl, by decide⟩ (ox_ix (N := 40) (by decide) (by decide)) ?_)
  rw [show (nI 3).toNatClampNeg = 3 from rfl]
  refine oT_N 6 rfl (oT_I (o := 11) (n := nI a) rfl (Or.inl ⟨rfl, by decide⟩) na ?_)
  rw [ca, (a5 a ha).2.2.1, if_pos (show P.kd a < 2 by omega)]
  refine oT_I (o := 16) (n := nI (P.pl a)) rfl (Or.inl ⟨rfl, by decide⟩) (ox_ix (N := 4) (by omega) (by decide)) ?_
  rw [nI_clamp (by omega)]
  refine oT_Is (o := 133) (n := nI a) (x := σ 16 (P.pl a)) rfl ⟨rfl, by decide⟩ na ?_
  rw [ca]
  exact oT_Retv rfl rfl ⟨rfl, rfl⟩
theorem ot_fillRead1s {a w : Nat} (h : oC σ P) (ha : a < P.n) (hw : w < P.n) : oT L k 9 0 [some (.ref 5), some (.ref 1), some (.int (nI a)), some (.int (nI w))] [] σ (fun o σ' => o = .inl none ∧ (∀ o, o ≠ 131 → o ≠ 133 → o ≠ 134 → σ' o = σ o) ∧ (∀ q, σ' 133 q = if q = a then σ 132 w else σ 133 q) ∧ (∀ q y, y < 12 → (oBr σ' 131 q y = true ↔ oBr σ 131 q y = true ∨ (q = w ∧ y = a))) ∧ ∀ q y, y < 12 → (oBr σ' 134 q y = true ↔ oBr σ 134 q y = true ∨ (q = w ∧ y = a ∧ P.th w ≠ P.th a))) := by
  obtain ⟨⟨hT, hn, hok⟩, a2, a3, a4, a5, a6, a7, a8, a9⟩ := id h
  have na : ¬ (nI a < 0 ∨ 12 ≤ (nI a).toNatClampNeg) := ox_ix (by omega) (by decide)
  have ca : (nI a).toNatClampNeg = a := nI_clamp (by omega)
  have nw : ¬ (nI w < 0 ∨ 12 ≤ (nI w).toNatClampNeg) := ox_ix (by omega) (by decide)
  have cw : (nI w).toNatClampNeg = w := nI_clamp (by omega)
  have ta := (hok a ha).1
  have tw := (hok w hw).1
  have setb : ∀ (τ : ox_S) (o q y : Nat), y < 12 → (oBit (if q = w then τ o w ||| o1 a else τ o q) y = true ↔ oBr τ o q y = true ∨ (q = w ∧ y = a)) := fun τ o q y hy => by
    by_cases e : q = w
    · subst e
      rw [if_pos rfl, oBit_or, oBit_1 (by omega), Bool.or_eq_true, decide_eq_true_eq]
      exact ⟨fun q => q.imp id (fun q => ⟨rfl, q⟩), fun q => q.imp id (fun q => q.2)⟩
    · rw [if_neg e]
      exact ⟨Or.inl, fun q => q.elim id (fun q => absurd q.1 e)⟩
  refine oT_N 3 rfl (oT_If (fun (q : nI w = -1) => absurd (show nI w < 0 by rw [q]; decide) (nI_pos (by omega))) (fun _ => ?_))
  refine oT_N 3 rfl (oT_A (o := 129) (n := nI 3) rfl ⟨rfl, by decide⟩ (ox_ix (N := 40) (by decide) (by decide)) ?_)
  rw [show (nI 3).toNatClampNeg = 3 from rfl]
  refine oT_N 4 rfl (oT_A (o := 129) (n := nI 2) rfl ⟨rfl, by decide⟩ (ox_ix (N := 40) (by decide) (by decide)) ?_)
  rw [show (nI 2).toNatClampNeg = 2 from rfl]
  refine oT_N 1 rfl (oT_I (o := 132) (n := nI w) rfl (Or.inl ⟨rfl, by decide⟩) nw ?_)
  rw [cw]
  refine oT_Is (o := 133) (n := nI a) (x := σ 132 w) rfl ⟨rfl, by decide⟩ na ?_
  rw [ca]
  refine oT_N 3 rfl (oT_A (o := 129) (n := nI 1) rfl ⟨rfl, by decide⟩ (ox_ix (N := 40) (by decide) (by decide)) ?_)
  rw [show (nI 1).toNatClampNeg = 1 from rfl]
  refine oT_N 2 rfl (oT_I (o := 131) (n := nI w) rfl (Or.inl ⟨rfl, by decide⟩) nw ?_)
  rw [cw, ox_up_ne (by decide)]
  refine oT_N 4 rfl (oT_Is (o := 131) (n := nI w) (x := σ 131 w ||| o1 a) rfl ⟨rfl, by decide⟩ nw ?_)
  rw [cw]
  have u : ∀ o, o ≠ 131 → o ≠ 133 → ox_up (ox_up σ 133 a (σ 132 w)) 131 w (σ 131 w ||| o1 a) o = σ o := fun o q1 q2 => by rw [ox_up_ne q1, ox_up_ne q2]
  have u80 : ∀ q, ox_up (ox_up σ 133 a (σ 132 w)) 131 w (σ 131 w ||| o1 a) 133 q = if q = a then σ 132 w else σ 133 q := fun q => by rw [ox_up_ne (by decide), ox_up_at]
  have u78 : ∀ q, ox_up (ox_up σ 133 a (σ 132 w)) 131 w (σ 131 w ||| o1 a) 131 q = if q = w then σ 131 w ||| o1 a else σ 131 q := fun q => by rw [ox_up_at, ox_up_ne (by decide)]
  generalize ox_up (ox_up σ 133 a (σ 132 w)) 131 w (σ 131 w ||| o1 a) = τ at u u80 u78
  refine oT_N 3 rfl (oT_I (o := 9) (n := nI w) rfl (Or.inl ⟨rfl, by decide⟩) nw ?_)
  rw [cw, u 9 (by decide) (by decide), (a5 w hw).1]
  refine oT_N 3 rfl (oT_I (o := 9) (n := nI a) rfl (Or.inl ⟨rfl, by decide⟩) na ?_)
  rw [ca, u 9 (by decide) (by decide), (a5 a ha).1]
  refine oT_N 1 rfl (oT_eq (P.th w) (P.th a) rfl rfl (by omega) (by omega) (fun e => ?_) (fun e => ?_))
  · refine oT_Retv rfl rfl ⟨rfl, fun o q1 q2 _ => u o q1 q2, u80, fun q y hy => ?_, fun q y hy => ?_⟩
    · show oBit (τ 131 q) y = true ↔ _
      rw [u78]
      exact setb σ 131 q y hy
    · show oBit (τ 134 q) y = true ↔ _
      rw [u 134 (by decide) (by decide)]
      exact ⟨Or.inl, fun q1 => q1.elim id (fun q1 => absurd e q1.2.2)⟩
  · refine oT_N 3 rfl (oT_A (o := 129) (n := nI 4) rfl ⟨rfl, by decide⟩ (ox_ix (N := 40) (by decide) (by decide)) ?_)
    rw [show (nI 4).toNatClampNeg = 4 from rfl]
    refine oT_N 2 rfl (oT_I (o := 134) (n := nI w) rfl (Or.inl ⟨rfl, by decide⟩) nw ?_)
    rw [cw, u 134 (by decide) (by decide)]
    refine oT_N 4 rfl (oT_Is (o := 134) (n := nI w) (x := σ 134 w ||| o1 a) rfl ⟨rfl, by decide⟩ nw ?_)
    rw [cw]
    refine oT_Retv rfl rfl ⟨rfl, fun o q1 q2 q3 => by rw [ox_up_ne q3]; exact u o q1 q2, fun q => by rw [ox_up_ne (by decide)]; exact u80 q, fun q y hy => ?_, fun q y hy => ?_⟩
    · show oBit (ox_up τ 134 w _ 131 q) y = true ↔ _
      rw [ox_up_ne (by decide), u78]
      exact setb σ 131 q y hy
    · show oBit (ox_up τ 134 w _ 134 q) y = true ↔ _
      rw [ox_up_at, u 134 (by decide) (by decide), setb σ 134 q y hy]
      exact ⟨fun q1 => q1.imp id (fun q1 => ⟨q1.1, q1.2, e⟩), fun q1 => q1.imp id (fun q1 => ⟨q1.1, q1.2.1⟩)⟩
set_option maxHeartbeats 2000000 in
theorem ot_fillChosens {x : Nat} (h : oC σ P) (h0 : σ 5 0 = nI P.n) (h2 : σ 5 2 = nI (ocR P P.n)) (c69 : ∀ i, i < ocR P P.n → σ 122 i = oSc P x i) (c70 : ∀ p, p < 4 → σ 123 p = nI (oW P p)) (c72 : ∀ p j, p < 4 → j < oW P p → σ (125 + p) j = nI (oOd P x p j)) (hk : 2 ≤ k) (hk9 : k ≤ 9) : oT L k 8 0 [some (.ref 5), some (.ref 1), none, none, none, none] [] σ (fun o σ' => o = .inl none ∧ (∀ o, o < 131 ∨ 134 < o → σ' o = σ o) ∧ ∀ r, 1 ≤ r → r ≤ 4 → ∀ a b, a < P.n → b < P.n → oBr σ' (130 + r) a b = oGv P (oXs P x) r a b) := by
  obtain ⟨k, rfl⟩ : ∃ k', k = k' + 1 := ⟨k - 1, by omega⟩
  obtain ⟨⟨hT, hn, hok⟩, a2, a3, a4, a5, a6, a7, a8, a9⟩ := id h
  have hw : ∀ p, oW P p ≤ 12 := fun p => Nat.le_trans (ocW_le P p P.n) hn
  have hR := ocR_le P P.n
  -- the reads
  have reads : ∀ (d i : Nat) (τ : ox_S) (l3 l4 l5 : Option Value), i + d = ocR P P.n → (∀ o, o < 131 ∨ 134 < o → τ o = σ o) → (∀ a b, a < P.n → b < P.n → (oBr τ 132 a b = true ↔ oGv P (oXs P x) 2 a b = true)) → (∀ a b, a < P.n → b < P.n → (oBr τ 131 a b = true ↔ oGv P (oXs P x) 1 a b = true ∧ ocR P b < i)) → (∀ a b, a < P.n → b < P.n → (oBr τ 134 a b = true ↔ oGv P (oXs P x) 4 a b = true ∧ ocR P b < i)) → (∀ a b, a < P.n → b < P.n → (oBr τ 133 a b = true ↔ oGv P (oXs P x) 3 a b = true ∧ ocR P a < i)) → oT L (k + 1) 8 104 [some (.ref 5), some (.ref 1), some (.int (nI i)), l3, l4, l5] [] τ (fun o σ' => o = .inl none ∧ (∀ o, o < 131 ∨ 134 < o → σ' o = σ o) ∧ ∀ r, 1 ≤ r → r ≤ 4 → ∀ a b, a < P.n → b < P.n → oBr σ' (130 + r) a b = oGv P (oXs P x) r a b) := by
    intro d
    induction d with
    | zero =>
      intro i τ l3 l4 l5 hi g0 g2 g1 g4 g3
      refine oT_N 4 rfl (oT_le (ocR P P.n) i (by rw [g0 5 (by decide)]; exact h2) rfl (by omega) (by omega) (fun _ => ?_) (fun q => by omega))
      refine oT_Retv rfl rfl ⟨rfl, g0, fun r r1 r2 a b ha hb => Bool.eq_iff_iff.mpr ?_⟩
      have hc : r = 1 ∨ r = 2 ∨ r = 3 ∨ r = 4 := by omega
      rcases hc with rfl | rfl | rfl | rfl
      · refine (g1 a b ha hb).trans ⟨fun q => q.1, fun q => ⟨q, ?_⟩⟩
        have := (oRd_of hb (oGv_1.mp q).1).2
        omega
      · exact g2 a b ha hb
      · refine (g3 a b ha hb).trans ⟨fun q => q.1, fun q => ⟨q, ?_⟩⟩
        have := (oRd_of ha (oGv_3.mp q).1).2
        omega
      · refine (g4 a b ha hb).trans ⟨fun q => q.1, fun q => ⟨q, ?_⟩⟩
        have := (oRd_of hb (oGv_4.mp q).1.1).2
        omega
    | succ d ih =>
      intro i τ l3 l4 l5 hi g0 g2 g1 g4 g3
      have ci : (nI i).toNatClampNeg = i := nI_clamp (by omega)
      have ni : ¬ (nI i < 0 ∨ 12 ≤ (nI i).toNatClampNeg) := ox_ix (by omega) (by decide)
      obtain ⟨r1, r2, r3⟩ := oRd_sp (P := P) (i := i) (by omega)
      have hC : oC τ P := oC_ext h (g0 1 (by decide)) (fun o q1 q2 => g0 o (by omega))
      have uni : ∀ b, b < P.n → P.kd b = 0 → ocR P b = i → b = oRd P i := fun b hb hk e => by rw [← e]; exact (oRd_of hb hk).1.symm
      refine oT_N 4 rfl (oT_le (ocR P P.n) i (by rw [g0 5 (by decide)]; exact h2) rfl (by omega) (by omega) (fun q => by omega) (fun _ => ?_))
      refine oT_N 5 rfl (oT_I (o := 14) (n := nI i) rfl (Or.inl ⟨rfl, by decide⟩) ni ?_)
      rw [ci, g0 14 (by decide), a6 i (by omega)]
      refine oT_N 3 rfl (oT_I (o := 122) (n := nI i) rfl (Or.inl ⟨rfl, by decide⟩) ni ?_)
      rw [ci, g0 122 (by decide), c69 i (by omega)]
      have step : ∀ τ' : ox_S, (∀ o, o < 131 ∨ 134 < o → τ' o = σ o) → (∀ a b, a < P.n → b < P.n → (oBr τ' 132 a b = true ↔ oGv P (oXs P x) 2 a b = true)) → (∀ a b, a < P.n → b < P.n → (oBr τ' 131 a b = true ↔ oBr τ 131 a b = true ∨ (b = oRd P i ∧ oSc P x i = nI a))) → (∀ a b, a < P.n → b < P.n → (oBr τ' 134 a b = true ↔ oBr τ 134 a b = true ∨ (b = oRd P i ∧ oSc P x i = nI a ∧ P.th a ≠ P.th b))) → (∀ a b, a < P.n → b < P.n → (oBr τ' 133 a b = true ↔ if a = oRd P i then oGv P (oXs P x) 3 a b = true else oBr τ 133 a b = true)) → oT L (k + 1) 8 129 [some (.ref 5), some (.ref 1), some (.int (nI i)), l3, l4, l5] [] τ' (fun o σ' => o = .inl none ∧ (∀ o, o < 131 ∨ 134 < o → σ' o = σ o) ∧ ∀ r, 1 ≤ r → r ≤ 4 → ∀ a b, a < P.n → b < P.n → oBr σ' (130 + r) a b = oGv P (oXs P x) r a b) := fun τ' s0 s2 s1 s4 s3 => by
        have e := ih (i + 1) τ' l3 l4 l5 (by omega) s0 s2 (fun a b ha hb => by
          rw [s1 a b ha hb, g1 a b ha hb, oGv_1]
          constructor
          · rintro (q | ⟨q1, q2⟩)
            · exact ⟨q.1, by omega⟩
            · rw [q1, r3]
              exact ⟨⟨r2, q2⟩, by omega⟩
          · rintro ⟨q1, q2⟩
            rcases Nat.lt_or_ge (ocR P b) i with q3 | q3
            · exact Or.inl ⟨q1, q3⟩
            · have e1 : ocR P b = i := by omega
              exact Or.inr ⟨uni b hb q1.1 e1, by rw [← e1]; exact q1.2⟩) (fun a b ha hb => by
          rw [s4 a b ha hb, g4 a b ha hb, oGv_4]
          constructor
          · rintro (q | ⟨q1, q2, q3⟩)
            · exact ⟨q.1, by omega⟩
            · rw [q1] at q3 ⊢
              rw [r3]
              exact ⟨⟨⟨r2, q2⟩, q3⟩, by omega⟩
          · rintro ⟨q1, q2⟩
            rcases Nat.lt_or_ge (ocR P b) i with q3 | q3
            · exact Or.inl ⟨q1, q3⟩
            · have e1 : ocR P b = i := by omega
              exact Or.inr ⟨uni b hb q1.1.1 e1, by rw [← e1]; exact q1.1.2, q1.2⟩) (fun a b ha hb => by
          rw [s3 a b ha hb]
          by_cases e1 : a = oRd P i
          · rw [if_pos e1]
            exact ⟨fun q => ⟨q, by rw [e1, r3]; omega⟩, fun q => q.1⟩
          · rw [if_neg e1, g3 a b ha hb]
            refine ⟨fun q => ⟨q.1, by omega⟩, fun q => ⟨q.1, ?_⟩⟩
            rcases Nat.lt_or_ge (ocR P a) i with q3 | q3
            · exact q3
            · exact absurd (uni a ha (oGv_3.mp q.1).1 (by omega)) e1)
        rw [← ox_inc i] at e
        exact oT_N 2 rfl e
      rcases oSc_or (P := P) (x := x) (i := i) with ⟨p1, p2⟩ | ⟨p1, p2, p3⟩
      · rw [p2]
        refine oT_V rfl rfl rfl rfl (by omega) (by omega) (ot_fillRead0s hC r1 r2) (fun x σ2 h => by cases h.1) (fun v σ2 hv => ?_)
        obtain ⟨hv, rfl⟩ := hv
        cases hv
        have hpl := (hok _ r1).2.2 (by omega)
        have hno : ∀ a, a < P.n → oSc P x i ≠ nI a := fun a ha e => by
          rw [p2] at e
          exact nI_pos (n := a) (by omega) (by rw [← e]; decide)
        refine step _ (fun o ho => by rw [ox_up_ne (by omega)]; exact g0 o ho) (fun a b ha hb => ?_) (fun a b ha hb => ?_) (fun a b ha hb => ?_) (fun a b ha hb => ?_)
        · show oBit (ox_up τ 133 _ _ 132 a) b = true ↔ _
          rw [ox_up_ne (by decide)]
          exact g2 a b ha hb
        · show oBit (ox_up τ 133 _ _ 131 a) b = true ↔ _
          rw [ox_up_ne (by decide)]
          exact ⟨Or.inl, fun q => q.elim id (fun q => absurd q.2 (hno a ha))⟩
        · show oBit (ox_up τ 133 _ _ 134 a) b = true ↔ _
          rw [ox_up_ne (by decide)]
          exact ⟨Or.inl, fun q => q.elim id (fun q => absurd q.2.1 (hno a ha))⟩
        · show oBit (ox_up τ 133 (oRd P i) (τ 16 (P.pl (oRd P i))) 133 a) b = true ↔ _
          rw [ox_up_at]
          by_cases e : a = oRd P i
          · rw [if_pos e, if_pos e, g0 16 (by decide), a8 _ hpl b (by omega), decide_eq_true hb, Bool.true_and, oGv_3, e, r3, p2]
            unfold oIw
            rw [decide_eq_true_eq]
            exact ⟨fun q => ⟨r2, q.1, q.2.symm, Or.inl (by decide)⟩, fun q => ⟨q.2.1, q.2.2.1.symm⟩⟩
          · rw [if_neg e, if_neg e]
            exact Iff.rfl
      · obtain ⟨w1, w2, w3, -⟩ := oWr_sp p2
        rw [p3]
        generalize oWr P (P.pl (oRd P i)) (oPk P x i - 1) = w at w1 w2 w3 p3
        refine oT_V rfl rfl rfl rfl (by omega) (by omega) (ot_fillRead1s hC r1 w1) (fun x σ2 h => by cases h.1) (fun v σ2 hv => ?_)
        obtain ⟨hv, v0, v80, v78, v81⟩ := hv
        cases hv
        have hsc : ∀ a, a < P.n → (oSc P x i = nI a ↔ a = w) := fun a ha => by
          rw [p3]
          exact ⟨fun q => ((nI_eq (by omega) (by omega)).mp q).symm, fun q => by rw [q]⟩
        refine step σ2 (fun o ho => by rw [v0 o (by omega) (by omega) (by omega)]; exact g0 o ho) (fun a b ha hb => ?_) (fun a b ha hb => ?_) (fun a b ha hb => ?_) (fun a b ha hb => ?_)
        · show oBit (σ2 132 a) b = true ↔ _
          rw [v0 132 (by decide) (by decide) (by decide)]
          exact g2 a b ha hb
        · rw [v78 a b (by omega), hsc a ha]
          exact ⟨fun q => q.imp id (fun q => ⟨q.2, q.1⟩), fun q => q.imp id (fun q => ⟨q.2, q.1⟩)⟩
        · rw [v81 a b (by omega), hsc a ha]
          refine ⟨fun q => q.imp id (fun q => ⟨q.2.1, q.1, by rw [q.1, q.2.1]; exact q.2.2⟩), fun q => q.imp id (fun q => ⟨q.2.1, q.1, by have := q.2.2; rw [q.2.1, q.1] at this; exact this⟩)⟩
        · show oBit (σ2 133 a) b = true ↔ _
          rw [v80]
          by_cases e : a = oRd P i
          · rw [if_pos e, if_pos e, show oBit (τ 132 w) b = true ↔ _ from g2 w b w1 hb, oGv_2, oGv_3, e, r3, p3, nI_clamp (by omega), w3]
            constructor
            · rintro ⟨-, q2, q3, q4⟩
              exact ⟨r2, q2, q3, Or.inr q4⟩
            · rintro ⟨-, q2, q3, q4⟩
              exact ⟨w2, q2, q3, q4.elim (fun q => absurd q (nI_pos (by omega))) id⟩
          · rw [if_neg e, if_neg e]
            exact Iff.rfl
  -- the places
  have places : ∀ (d p : Nat) (τ : ox_S) (l3 l4 l5 : Option Value), p + d = 4 → (∀ o, o < 131 ∨ 134 < o → τ o = σ o) → (∀ a b, a < P.n → b < 12 → (oBr τ 132 a b = true ↔ ∃ p' j j', p' < p ∧ j < j' ∧ j' < oW P p' ∧ a = oOd P x p' j ∧ b = oOd P x p' j')) → (∀ a, a < P.n → τ 131 a = 0 ∧ τ 133 a = 0 ∧ τ 134 a = 0) → oT L (k + 1) 8 40 [some (.ref 5), some (.ref 1), some (.int (nI p)), l3, l4, l5] [] τ (fun o σ' => o = .inl none ∧ (∀ o, o < 131 ∨ 134 < o → σ' o = σ o) ∧ ∀ r, 1 ≤ r → r ≤ 4 → ∀ a b, a < P.n → b < P.n → oBr σ' (130 + r) a b = oGv P (oXs P x) r a b) := by
    intro d
    induction d with
    | zero =>
      intro p τ l3 l4 l5 hp g0 g2 gz
      obtain rfl : p = 4 := by omega
      refine oT_N 3 rfl (oT_le 4 4 rfl rfl (by decide) (by decide) (fun _ => ?_) (fun q => by omega))
      refine oT_N 2 rfl (reads (ocR P P.n) 0 τ l3 l4 l5 (by omega) g0 (fun a b ha hb => ?_) (fun a b ha hb => ?_) (fun a b ha hb => ?_) (fun a b ha hb => ?_))
      · rw [g2 a b ha (by omega)]
        exact oGv_2p ⟨hT, hn, hok⟩ ha hb
      · unfold oBr
        rw [(gz a ha).1, oBit_0]
        exact ⟨fun q => (by cases q), fun q => by omega⟩
      · unfold oBr
        rw [(gz a ha).2.2, oBit_0]
        exact ⟨fun q => (by cases q), fun q => by omega⟩
      · unfold oBr
        rw [(gz a ha).2.1, oBit_0]
        exact ⟨fun q => (by cases q), fun q => by omega⟩
    | succ d ih =>
      intro p τ l3 l4 l5 hp g0 g2 gz
      have np : ¬ (nI p < 0 ∨ 4 ≤ (nI p).toNatClampNeg) := ox_ix (by omega) (by decide)
      have cp : (nI p).toNatClampNeg = p := nI_clamp (by omega)
      have r72 : oRw (125 + p) := by have := oRw_72 p (by omega); first | exact this.1 | exact this.2
      have hwp := hw p
      refine oT_N 3 rfl (oT_le 4 p rfl rfl (by decide) (by omega) (fun q => by omega) (fun _ => ?_))
      refine oT_N 5 rfl (oT_I (o := 123) (n := nI p) rfl (Or.inl ⟨rfl, by decide⟩) np ?_)
      rw [cp, g0 123 (by decide), c70 p (by omega)]
      have inner : ∀ (i : Nat) (m : Int32) (τ' : ox_S) (l5 : Option Value), i ≤ oW P p → (∀ o, o < 131 ∨ 134 < o → τ' o = σ o) → (∀ a b, a < P.n → b < 12 → (oBr τ' 132 a b = true ↔ ∃ p' j j', (p' < p ∨ (p' = p ∧ i ≤ j)) ∧ j < j' ∧ j' < oW P p' ∧ a = oOd P x p' j ∧ b = oOd P x p' j')) → (∀ a, a < P.n → τ' 131 a = 0 ∧ τ' 133 a = 0 ∧ τ' 134 a = 0) → (∀ y, oBit m y = true ↔ ∃ j, i ≤ j ∧ j < oW P p ∧ y = oOd P x p j) → oT L (k + 1) 8 57 [some (.ref 5), some (.ref 1), some (.int (nI p)), some (.int m), some (.int (nI i + Int32.ofInt (-1))), l5] [] τ' (fun o σ' => o = .inl none ∧ (∀ o, o < 131 ∨ 134 < o → σ' o = σ o) ∧ ∀ r, 1 ≤ r → r ≤ 4 → ∀ a b, a < P.n → b < P.n → oBr σ' (130 + r) a b = oGv P (oXs P x) r a b) := by
        intro i
        induction i with
        | zero =>
          intro m τ' l5 hi f0 f2 fz fm
          refine oT_N 2 rfl (oT_If (fun _ => ?_) (fun (q : ¬ nI 0 + Int32.ofInt (-1) < 0) => absurd ox_dc0 q))
          have e := ih (p + 1) τ' (some (.int m)) (some (.int (nI 0 + Int32.ofInt (-1)))) l5 (by omega) f0 (fun a b ha hb => by
            rw [f2 a b ha hb]
            constructor
            · rintro ⟨p', j, j', q1, q2⟩
              exact ⟨p', j, j', by omega, q2⟩
            · rintro ⟨p', j, j', q1, q2⟩
              exact ⟨p', j, j', by omega, q2⟩) fz
          rw [← ox_inc p] at e
          exact oT_N 2 rfl e
        | succ i ihi =>
          intro m τ' l5 hi f0 f2 fz fm
          rw [ox_dec]
          have ci : (nI i).toNatClampNeg = i := nI_clamp (by omega)
          obtain ⟨ow1, ow2, ow3⟩ := oOd_w (P := P) (x := x) (p := p) (i := i) (by omega)
          have ne : ¬ (nI (oOd P x p i) < 0 ∨ 12 ≤ (nI (oOd P x p i)).toNatClampNeg) := ox_ix (by omega) (by decide)
          have ce : (nI (oOd P x p i)).toNatClampNeg = oOd P x p i := nI_clamp (by omega)
          refine oT_N 2 rfl (oT_lt i 0 rfl rfl (by omega) (by decide) (fun q => by omega) (fun _ => ?_))
          refine oT_N 3 rfl (oT_A (o := 124) (n := nI p) rfl ⟨rfl, by decide⟩ np ?_)
          rw [cp]
          refine oT_N 1 rfl (oT_I (o := 125 + p) (n := nI i) rfl (Or.inl ⟨r72.1, r72.2.1⟩) (ox_ixL r72.2.1 r72.2.2 (by omega) (by decide)) ?_)
          rw [ci, f0 (125 + p) (by omega), c72 p i (by omega) (by omega)]
          refine oT_N 4 rfl (oT_A (o := 129) (n := nI 2) rfl ⟨rfl, by decide⟩ (ox_ix (N := 40) (by decide) (by decide)) ?_)
          rw [show (nI 2).toNatClampNeg = 2 from rfl]
          refine oT_N 2 rfl (oT_Is (o := 132) (n := nI (oOd P x p i)) (x := m) rfl ⟨rfl, by decide⟩ ne ?_)
          rw [ce]
          have e := ihi (m ||| o1 (oOd P x p i)) (ox_up τ' 132 (oOd P x p i) m) (some (.int (nI (oOd P x p i)))) (by omega) (fun o ho => by rw [ox_up_ne (by omega)]; exact f0 o ho) (fun a b ha hb => by
            show oBit (ox_up τ' 132 (oOd P x p i) m 132 a) b = true ↔ _
            rw [ox_up_at]
            by_cases e : a = oOd P x p i
            · rw [if_pos e, fm b]
              constructor
              · rintro ⟨j, q1, q2, q3⟩
                exact ⟨p, i, j, Or.inr ⟨rfl, Nat.le_refl _⟩, by omega, q2, e, q3⟩
              · rintro ⟨p', j, j', q1, q2, q3, q4, q5⟩
                have ep : p' = p := by
                  have := (oOd_w (P := P) (x := x) (p := p') (i := j) (by omega)).2.2
                  rw [← q4, e, ow3] at this
                  exact this.symm
                subst ep
                have ej : j = i := oOd_inj (P := P) (x := x) (p := p') (by omega) (by omega) (by rw [← q4, e])
                exact ⟨j', by omega, q3, q5⟩
            · rw [if_neg e]
              refine (f2 a b ha hb).trans ⟨?_, ?_⟩
              · rintro ⟨p', j, j', q1, q2⟩
                exact ⟨p', j, j', by omega, q2⟩
              · rintro ⟨p', j, j', q1, q2, q3, q4, q5⟩
                refine ⟨p', j, j', ?_, q2, q3, q4, q5⟩
                rcases q1 with q1 | q1
                · exact Or.inl q1
                · rcases Nat.lt_or_ge i j with q6 | q6
                  · exact Or.inr ⟨q1.1, q6⟩
                  · have : j = i := by omega
                    rw [this, q1.1] at q4
                    exact absurd q4 e) (fun a ha => by rw [ox_up_ne (by decide), ox_up_ne (by decide), ox_up_ne (by decide)]; exact fz a ha) (fun y => by
            rw [oBit_or, oBit_1 (by omega), Bool.or_eq_true, decide_eq_true_eq, fm y]
            constructor
            · rintro (⟨j, q1, q2, q3⟩ | q1)
              · exact ⟨j, by omega, q2, q3⟩
              · exact ⟨i, Nat.le_refl _, by omega, q1⟩
            · rintro ⟨j, q1, q2, q3⟩
              rcases Nat.lt_or_ge i j with q6 | q6
              · exact Or.inl ⟨j, q6, q2, q3⟩
              · have : j = i := by omega
                rw [this] at q3
                exact Or.inr q3)
          exact oT_N 8 rfl e
      have e := inner (oW P p) 0 τ l5 (Nat.le_refl _) g0 (fun a b ha hb => by
        rw [g2 a b ha hb]
        constructor
        · rintro ⟨p', j, j', q1, q2⟩
          exact ⟨p', j, j', Or.inl q1, q2⟩
        · rintro ⟨p', j, j', q1, q2, q3, q4⟩
          refine ⟨p', j, j', ?_, q2, q3, q4⟩
          rcases q1 with q1 | ⟨rfl, q1⟩
          · exact q1
          · omega) gz (fun y => ⟨fun q => (by rw [oBit_0] at q; cases q), fun ⟨j, q1, q2, _⟩ => by omega⟩)
      rw [← ox_sub1] at e
      exact oT_N 3 rfl e
  -- the rows are emptied
  refine oT_N 2 rfl ?_
  have empty : ∀ (d a : Nat) (τ : ox_S) (l3 : Option Value), a + d = P.n → (∀ o, o < 131 ∨ 134 < o → τ o = σ o) → (∀ r, 1 ≤ r → r ≤ 4 → ∀ y, y < a → τ (130 + r) y = 0) → oT L (k + 1) 8 2 [some (.ref 5), some (.ref 1), some (.int (nI a)), l3, none, none] [] τ (fun o σ' => o = .inl none ∧ (∀ o, o < 131 ∨ 134 < o → σ' o = σ o) ∧ ∀ r, 1 ≤ r → r ≤ 4 → ∀ a b, a < P.n → b < P.n → oBr σ' (130 + r) a b = oGv P (oXs P x) r a b) := by
    intro d
    induction d with
    | zero =>
      intro a τ l3 ha g0 g1
      obtain rfl : a = P.n := by omega
      refine oT_N 4 rfl (oT_le P.n P.n (by rw [g0 5 (by decide)]; exact h0) rfl (by omega) (by omega) (fun _ => ?_) (fun q => by omega))
      refine oT_N 2 rfl (places 4 0 τ l3 none none (by omega) g0 (fun a b ha hb => ?_) (fun y hy => ⟨g1 1 (by decide) (by decide) y hy, g1 3 (by decide) (by decide) y hy, g1 4 (by decide) (by decide) y hy⟩))
      have hz : τ 132 a = 0 := g1 2 (by decide) (by decide) a ha
      unfold oBr
      rw [hz, oBit_0]
      exact ⟨fun q => (by cases q), fun ⟨p', j, j', q1, _⟩ => by omega⟩
    | succ d ih =>
      intro a τ l3 ha g0 g1
      have na : ¬ (nI a < 0 ∨ 12 ≤ (nI a).toNatClampNeg) := ox_ix (by omega) (by decide)
      have ca : (nI a).toNatClampNeg = a := nI_clamp (by omega)
      refine oT_N 4 rfl (oT_le P.n a (by rw [g0 5 (by decide)]; exact h0) rfl (by omega) (by omega) (fun q => by omega) (fun _ => ?_))
      have zero : ∀ (d r : Nat) (τ' : ox_S), r + d = 5 → 1 ≤ r → (∀ o, o < 131 ∨ 134 < o → τ' o = σ o) → (∀ r', 1 ≤ r' → r' ≤ 4 → ∀ y, y < a → τ' (130 + r') y = 0) → (∀ r', 1 ≤ r' → r' < r → τ' (130 + r') a = 0) → oT L (k + 1) 8 12 [some (.ref 5), some (.ref 1), some (.int (nI a)), some (.int (nI r)), none, none] [] τ' (fun o σ' => o = .inl none ∧ (∀ o, o < 131 ∨ 134 < o → σ' o = σ o) ∧ ∀ r, 1 ≤ r → r ≤ 4 → ∀ a b, a < P.n → b < P.n → oBr σ' (130 + r) a b = oGv P (oXs P x) r a b) := by
        intro d
        induction d with
        | zero =>
          intro r τ' hr h1 f0 f1 f2
          refine oT_N 3 rfl (oT_lt 4 r rfl rfl (by decide) (by omega) (fun _ => ?_) (fun q => by omega))
          have e := ih (a + 1) τ' (some (.int (nI r))) (by omega) f0 (fun r' q1 q2 y hy => by
            rcases Nat.lt_or_ge y a with q3 | q3
            · exact f1 r' q1 q2 y q3
            · obtain rfl : y = a := by omega
              exact f2 r' q1 (by omega))
          rw [← ox_inc a] at e
          exact oT_N 2 rfl e
        | succ d ihr =>
          intro r τ' hr h1 f0 f1 f2
          have rr : oRw (130 + r) := by have := oRw_77 r (by omega); first | exact this.1 | exact this.2
          refine oT_N 3 rfl (oT_lt 4 r rfl rfl (by decide) (by omega) (fun q => by omega) (fun _ => ?_))
          refine oT_N 3 rfl (oT_A (o := 129) (n := nI r) rfl ⟨rfl, by decide⟩ (ox_ix (N := 40) (by omega) (by decide)) ?_)
          rw [nI_clamp (show r < 2 ^ 31 by omega)]
          refine oT_N 2 rfl (oT_Is (o := 130 + r) (n := nI a) (x := 0) rfl ⟨rr.1, rr.2.1⟩ (ox_ixL rr.2.1 rr.2.2 (by omega) (by decide)) ?_)
          rw [ca]
          have e := ihr (r + 1) (ox_up τ' (130 + r) a 0) (by omega) (by omega) (fun o ho => by rw [ox_up_ne (by omega)]; exact f0 o ho) (fun r' q1 q2 y hy => by
            by_cases e2 : r' = r
            · subst e2
              rw [ox_up_at, if_neg (by omega)]
              exact f1 r' q1 q2 y hy
            · rw [ox_up_ne (by omega)]
              exact f1 r' q1 q2 y hy) (fun r' q1 q2 => by
            by_cases e2 : r' = r
            · subst e2
              rw [ox_up_at, if_pos rfl]
            · rw [ox_up_ne (by omega)]
              exact f2 r' q1 (by omega))
          rw [← ox_inc r] at e
          exact oT_N 2 rfl e
      exact oT_N 2 rfl (zero 4 1 τ (by omega) (by omega) g0 g1 (fun r' q1 q2 => by omega))
  exact empty P.n 0 σ none (by omega) (fun _ _ => rfl) (fun r _ _ y hy => by omega)
end OYFs
