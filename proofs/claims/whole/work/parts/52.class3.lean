section OYC
variable {L k : Nat} {σ : ox_S} {P : oPr} {M : oMo}
set_option maxHeartbeats 1000000 in
theorem ot_depends {a b : Int32} (h : oC σ P) (hk : 6 ≤ k) (hk9 : k ≤ 9) : oT L k 34 0 [some (.ref 0), some (.int a), some (.int b), none] [] σ (fun o σ' => (∀ a' b', a = nI a' → b = nI b' → oDo P a' b' → o = .inl (some (.int (if P.dp a' b' then 0 else 1))) ∧ oC σ' (oDp P a' b') ∧ oFC1 σ σ') ∧ (¬ oDg' P a b → o = .inr 1 ∧ σ' = σ)) := by
  obtain ⟨k, rfl⟩ : ∃ k', k = k' + 1 := ⟨k - 1, by omega⟩
  obtain ⟨⟨hT, hn, hok⟩, a2, a3, a4, a5, a6, a7, a8, a9⟩ := id h
  generalize hPo : (fun (o : ox_O) (σ' : ox_S) => (∀ a' b', a = nI a' → b = nI b' → oDo P a' b' → o = .inl (some (.int (if P.dp a' b' then 0 else 1))) ∧ oC σ' (oDp P a' b') ∧ oFC1 σ σ') ∧ (¬ oDg' P a b → o = .inr 1 ∧ σ' = σ)) = Post
  have bad : ¬ oDg' P a b → Post (.inr 1) σ := fun hb => by
    subst hPo
    exact ⟨fun a' b' q1 q2 q3 => absurd ⟨a', b', q1, q2, q3⟩ hb, fun _ => ⟨rfl, rfl⟩⟩
  refine oT_N 4 rfl (oT_S rfl rfl rfl (by omega) (by omega) ot_isBelow' (fun x σ2 h => by cases h.1) (fun v σ2 hv => ?_))
  obtain ⟨hv, rfl⟩ := hv
  cases hv
  refine oT_N 1 rfl (oT_if1 (fun (q : ¬ (0 ≤ a ∧ a < σ2 1 1)) => ?_) (fun (qa : 0 ≤ a ∧ a < σ2 1 1) => ?_))
  · rw [a3] at q
    refine oT_T rfl (by decide) (by omega) (by omega) (bad ?_)
    rintro ⟨a', b', rfl, rfl, g1, -⟩
    exact q ⟨nI_pos' (by omega), nI_lt g1 (by omega)⟩
  rw [a3] at qa
  refine oT_N 4 rfl (oT_S rfl rfl rfl (by omega) (by omega) ot_isBelow' (fun x σ2 h => by cases h.1) (fun v σ3 hv => ?_))
  obtain ⟨hv, rfl⟩ := hv
  cases hv
  refine oT_N 1 rfl (oT_if1 (fun (q : ¬ (0 ≤ b ∧ b < σ3 1 1)) => ?_) (fun (qb : 0 ≤ b ∧ b < σ3 1 1) => ?_))
  · rw [a3] at q
    refine oT_T rfl (by decide) (by omega) (by omega) (bad ?_)
    rintro ⟨a', b', rfl, rfl, g1, g2, -⟩
    exact q ⟨nI_pos' (by omega), nI_lt g2 (by omega)⟩
  rw [a3] at qb
  obtain ⟨ea, la⟩ := ox_natlt qa.1 qa.2 (by omega)
  obtain ⟨eb, lb⟩ := ox_natlt qb.1 qb.2 (by omega)
  generalize a.toNatClampNeg = a' at ea la
  generalize b.toNatClampNeg = b' at eb lb
  subst ea eb
  obtain ⟨i1, i2, i3, i4, i5⟩ := a5 a' la
  obtain ⟨j1, j2, j3, j4, j5⟩ := a5 b' lb
  obtain ⟨p1, p2, p3⟩ := hok a' la
  obtain ⟨r1, r2, r3⟩ := hok b' lb
  have nat2 : ∀ {x y : Nat}, nI a' = nI x → nI b' = nI y → x < P.n → y < P.n → x = a' ∧ y = b' := fun e1 e2 h1 h2 => ⟨((nI_eq (by omega) (by omega)).mp e1).symm, ((nI_eq (by omega) (by omega)).mp e2).symm⟩
  have na : ¬ (nI a' < 0 ∨ 12 ≤ (nI a').toNatClampNeg) := ox_ix (by omega) (by decide)
  have nb : ¬ (nI b' < 0 ∨ 12 ≤ (nI b').toNatClampNeg) := ox_ix (by omega) (by decide)
  have ca : (nI a').toNatClampNeg = a' := nI_clamp (by omega)
  have cb : (nI b').toNatClampNeg = b' := nI_clamp (by omega)
  refine oT_N 4 rfl (oT_I (o := 10) (n := nI a') rfl (Or.inl ⟨rfl, by decide⟩) na ?_)
  rw [ca, i2]
  refine oT_N 1 rfl (oT_eq (P.kd a') 0 rfl rfl (by omega) (by decide) (fun g3 => ?_) (fun g3 => ?_))
  · refine oT_N 4 rfl (oT_I (o := 10) (n := nI b') rfl (Or.inl ⟨rfl, by decide⟩) nb ?_)
    rw [cb, j2]
    refine oT_N 2 rfl (oT_eq (P.kd b') 2 rfl rfl (by omega) (by decide) (fun g6 => ?_) (fun g6 => ?_))
    · refine oT_T rfl (by decide) (by omega) (by omega) (bad ?_)
      rintro ⟨x, y, e1, e2, d1, d2, d3, d4, d5, d6⟩
      obtain ⟨rfl, rfl⟩ := nat2 e1 e2 d1 d2
      exact d6 g6
    · refine oT_N 4 rfl (oT_V rfl rfl rfl rfl (by omega) (by omega) (ot_isBefore h la lb) (fun x σ2 h => by cases h.1) (fun v σ2 hv => ?_))
      obtain ⟨hv, rfl⟩ := hv
      cases hv
      show oT L (k + 1) 34 72 [some (.ref 0), some (.int (nI a')), some (.int (nI b')), none] [.int (if oPg P a' b' then 1 else 0)] σ2 Post
      cases hpg : oPg P a' b' with
      | false =>
        refine oT_N 1 rfl (oT_If (fun _ => ?_) (fun (q : ¬ (0 : Int32) = 0) => absurd rfl q))
        refine oT_T rfl (by decide) (by omega) (by omega) (bad ?_)
        rintro ⟨x, y, e1, e2, d1, d2, d3, d4, d5, d6⟩
        obtain ⟨rfl, rfl⟩ := nat2 e1 e2 d1 d2
        simp [oPg, d4, d5] at hpg
      | true =>
        refine oT_N 1 rfl (oT_If (fun (q : (1 : Int32) = 0) => absurd q (by decide)) (fun _ => ?_))
        have hgood : oDo P a' b' := by
          simp only [oPg, Bool.and_eq_true, decide_eq_true_eq] at hpg
          exact ⟨la, lb, g3, hpg.1, hpg.2, g6⟩
        have fin : ∀ x : Int32, x = (if P.dp a' b' then 0 else 1) → Post (.inl (some (.int x))) (ox_up σ2 13 a' (σ2 13 a' ||| o1 b')) := fun x hx => by
          subst hPo
          refine ⟨fun x' y' e1 e2 d => ?_, fun q => absurd ⟨a', b', rfl, rfl, hgood⟩ q⟩
          obtain ⟨rfl, rfl⟩ := nat2 e1 e2 d.1 d.2.1
          obtain ⟨s1, s2, s3, s4⟩ := oPr_eq (P := P) (P' := oDp P x' y') rfl (fun _ => rfl) rfl
          refine ⟨by rw [hx], ⟨⟨hT, hn, hok⟩, ?_, ?_, ?_, fun e he => ?_, fun i hi => ?_, fun p hp => ?_, fun p hp => ?_, fun p hp j hj => ?_⟩, fun o o1 o2 => ?_⟩
          · rw [ox_up_ne (by decide)]; exact a2
          · rw [ox_up_ne (by decide)]; exact a3
          · rw [ox_up_ne (by decide), s1]; exact a4
          · obtain ⟨k1, k2, k3, k4, k5⟩ := a5 e he
            rw [ox_up_ne (by decide), ox_up_ne (by decide), ox_up_ne (by decide), ox_up_ne (by decide)]
            refine ⟨k1, k2, k3, k4, fun y hy => ?_⟩
            rw [ox_up_at]
            show _ = (decide (y < P.n) && (decide (e = x' ∧ y = y') || P.dp e y))
            by_cases q : e = x'
            · subst q
              rw [if_pos rfl, oBit_or, oBit_1 (by omega), i5 y hy]
              by_cases q2 : y = y'
              · subst q2
                rw [decide_eq_true rfl, Bool.or_true, decide_eq_true lb, decide_eq_true ⟨rfl, rfl⟩]
                rfl
              · rw [decide_eq_false q2, Bool.or_false, decide_eq_false (show ¬ (e = e ∧ y = y') from fun e => q2 e.2), Bool.false_or]
            · rw [if_neg q, decide_eq_false (show ¬ (e = x' ∧ y = y') from fun e => q e.1), Bool.false_or]
              exact k5 y hy
          · rw [s1] at hi
            rw [ox_up_ne (by decide), s2]; exact a6 i hi
          · rw [ox_up_ne (by decide), s3]; exact a7 p hp
          · rw [ox_up_ne (by decide)]; exact a8 p hp
          · rw [s3] at hj
            rw [ox_up_ne (by omega), s4]; exact a9 p hp j hj
          · rw [ox_up_ne (by omega)]
        have hbit : oBit (σ2 13 a') b' = P.dp a' b' := by
          rw [i5 b' (by omega), decide_eq_true lb, Bool.true_and]
        refine oT_N 4 rfl (oT_I (o := 13) (n := nI a') rfl (Or.inl ⟨rfl, by decide⟩) na ?_)
        rw [ca]
        refine oT_N 5 rfl (oT_bit b' (by omega) (fun q => ?_) (fun q => ?_))
        · rw [hbit] at q
          refine oT_N 8 rfl (oT_I (o := 13) (n := nI a') rfl (Or.inl ⟨rfl, by decide⟩) na ?_)
          rw [ca]
          refine oT_N 4 rfl (oT_Is (o := 13) (n := nI a') (x := σ2 13 a' ||| o1 b') rfl ⟨rfl, by decide⟩ na ?_)
          rw [ca]
          exact oT_N 1 rfl (oT_Ret rfl rfl rfl (fin _ (by rw [q]; rfl)))
        · rw [hbit] at q
          refine oT_N 7 rfl (oT_I (o := 13) (n := nI a') rfl (Or.inl ⟨rfl, by decide⟩) na ?_)
          rw [ca]
          refine oT_N 4 rfl (oT_Is (o := 13) (n := nI a') (x := σ2 13 a' ||| o1 b') rfl ⟨rfl, by decide⟩ na ?_)
          rw [ca]
          exact oT_N 1 rfl (oT_Ret rfl rfl rfl (fin _ (by rw [q]; rfl)))
  · refine oT_T rfl (by decide) (by omega) (by omega) (bad ?_)
    rintro ⟨x, y, e1, e2, d1, d2, d3, d4, d5, d6⟩
    obtain ⟨rfl, rfl⟩ := nat2 e1 e2 d1 d2
    exact g3 d3
/-- a program of nothing -/
def oP0 (P : oPr) : oPr := (0, 0, P.th, P.kd, P.pl, P.vl, P.dp)
theorem oP0_ok {P : oPr} : (oP0 P).ok := ⟨show (0 : Nat) ≤ 4 by omega, show (0 : Nat) ≤ 12 by omega, fun e he => absurd (show e < 0 from he) (by omega)⟩
theorem ot_forget : oT L k 24 0 [some (.ref 1), none] [] σ (fun o σ' => o = .inl none ∧ oC σ' (oP0 P) ∧ oFC1 σ σ') := by
  refine oT_N 11 rfl ?_
  have loop : ∀ (d p : Nat) (τ : ox_S), p + d = 4 → (∀ o, o ≠ 1 → o ≠ 15 → o ≠ 16 → τ o = σ o) → τ 1 0 = 0 → τ 1 1 = 0 → τ 1 2 = 0 → (∀ q, q < p → τ 15 q = 0 ∧ τ 16 q = 0) → oT L k 24 17 [some (.ref 1), some (.int (nI p))] [] τ (fun o σ' => o = .inl none ∧ oC σ' (oP0 P) ∧ oFC1 σ σ') := by
    intro d
    induction d with
    | zero =>
      intro p τ hp h1 h2 h3 h4 h5
      refine oT_N 3 rfl (oT_le 4 p rfl rfl (by decide) (by omega) (fun _ => ?_) (fun q => by omega))
      refine oT_Retv rfl rfl ⟨rfl, ⟨oP0_ok, h2, h3, h4, fun e he => absurd (show e < 0 from he) (by omega), fun i hi => absurd (show i < 0 from hi) (by omega), fun q hq => (h5 q (by omega)).1, fun q hq b hb => ?_, fun q hq j hj => absurd (show j < 0 from hj) (by omega)⟩, fun o o1 o2 => h1 o o1 (by omega) (by omega)⟩
      rw [(h5 q (by omega)).2, oBit_0]
      show false = (decide (b < 0) && _)
      rw [decide_eq_false (by omega)]
      rfl
    | succ d ih =>
      intro p τ hp h1 h2 h3 h4 h5
      refine oT_N 3 rfl (oT_le 4 p rfl rfl (by decide) (by omega) (fun q => by omega) (fun _ => ?_))
      refine oT_N 4 rfl (oT_Is (o := 15) (n := nI p) (x := 0) rfl ⟨rfl, by decide⟩ (ox_ix (N := 4) (by omega) (by decide)) ?_)
      rw [nI_clamp (by omega)]
      refine oT_N 4 rfl (oT_Is (o := 16) (n := nI p) (x := 0) rfl ⟨rfl, by decide⟩ (ox_ix (N := 4) (by omega) (by decide)) ?_)
      rw [nI_clamp (by omega)]
      have e := ih (p + 1) (ox_up (ox_up τ 15 p 0) 16 p 0) (by omega) (fun o q1 q2 q3 => by rw [ox_up_ne q3, ox_up_ne q2]; exact h1 o q1 q2 q3) (by rw [ox_up_ne (by decide), ox_up_ne (by decide)]; exact h2) (by rw [ox_up_ne (by decide), ox_up_ne (by decide)]; exact h3) (by rw [ox_up_ne (by decide), ox_up_ne (by decide)]; exact h4) (fun q hq => by
        rw [ox_up_ne (by decide), ox_up_at, ox_up_at, ox_up_ne (by decide)]
        by_cases e : q = p
        · rw [if_pos e, if_pos e]; exact ⟨rfl, rfl⟩
        · rw [if_neg e, if_neg e]; exact h5 q (by omega))
      rw [← ox_inc p] at e
      exact oT_N 2 rfl e
  exact loop 4 0 _ (by omega) (fun o q1 _ _ => by rw [ox_up_ne q1, ox_up_ne q1, ox_up_ne q1]) rfl rfl rfl (fun q hq => by omega)
theorem ot_clear (h : oC σ P) (hk : 2 ≤ k) (hk9 : k ≤ 9) : oT L k 48 0 [some (.ref 0), none] [] σ (fun o σ' => o = .inl (some (.int (nI P.n))) ∧ oC σ' (oP0 P) ∧ oFC1 σ σ') := by
  obtain ⟨k, rfl⟩ : ∃ k', k = k' + 1 := ⟨k - 1, by omega⟩
  refine oT_N 6 rfl (oT_V rfl rfl rfl rfl (by omega) (by omega) (ot_forget (P := P)) (fun x σ2 h => by cases h.1) (fun v σ1 hv => ?_))
  obtain ⟨hv, m1, f1⟩ := hv
  cases hv
  exact oT_N 1 rfl (oT_Ret rfl rfl rfl ⟨ox_o h.2.2.1, m1, f1⟩)
/-- the reference's clear, in terms of programs -/
theorem ot_mclear' (h : oM σ P) : oT L k 92 0 [some (.ref 7), none] [] σ (fun o σ' => o = .inl (some (.int (nI P.n))) ∧ σ' 7 0 = 0 ∧ oM σ' (oP0 P) ∧ oFP σ σ') := by
  refine ot_mclear.mono (fun o σ' q => ?_)
  obtain ⟨rfl, rfl⟩ := q
  refine ⟨by rw [h.2.2.1], rfl, ⟨oP0_ok, rfl, rfl, fun e he => absurd (show e < 0 from he) (by omega)⟩, fun o ho => ?_, fun q hq => ?_⟩
  · rw [ox_up_ne (by omega), ox_up_ne (by omega), ox_up_ne (by omega)]
  · rw [ox_up_at, if_neg (by omega), ox_up_at, if_neg (by omega), ox_up_at, if_neg (by omega)]
end OYC
