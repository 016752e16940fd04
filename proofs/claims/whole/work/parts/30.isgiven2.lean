theorem ox_i2 (a b : Nat) : (Int8.ofInt 12).toInt32 * nI a + nI b = nI (12 * a + b) := by
  rw [show (Int8.ofInt 12).toInt32 = nI 12 from rfl, pk_mul, nI_add]
set_option maxHeartbeats 2000000 in
theorem ot_isGiven {L k r a b : Nat} {σ : ox_S} {P : oPr} (h : oM σ P) (hs : oSr σ P) (hr : r < 12) (ha : a < P.n) (hb : b < P.n) (hk : 2 ≤ k) (hk9 : k ≤ 9) :
    oT L k 71 0 [some (.ref 7), some (.int (nI r)), some (.int (nI a)), some (.int (nI b)), none, none, none] [] σ (fun o σ' => o = .inl (some (.int (if oGv P σ r a b then 1 else 0))) ∧ σ' = σ) := by
  obtain ⟨k, rfl⟩ : ∃ k', k = k' + 1 := ⟨k - 1, by omega⟩
  refine ot_isGiven0 h ha hb (by omega) (by omega) ?_
  obtain ⟨⟨hT, hn, hok⟩, h1, h2, h3⟩ := id h
  obtain ⟨ga1, ga2, ga3, -, ga5⟩ := h3 a ha
  obtain ⟨gb1, gb2, gb3, -⟩ := h3 b hb
  obtain ⟨oa1, oa2, oa3⟩ := hok a ha
  obtain ⟨ob1, ob2, ob3⟩ := hok b hb
  have hac : (nI a).toNatClampNeg = a := nI_clamp (by omega)
  have hbc : (nI b).toNatClampNeg = b := nI_clamp (by omega)
  have n12 : ∀ {m : Nat}, m < 12 → ¬ (nI m < 0 ∨ 12 ≤ (nI m).toNatClampNeg) := fun hm => ox_ix hm (by decide)
  match r, hr with
  | 0, _ => exact oT_N 3 rfl (oT_Ret rfl rfl (ox_b01 _) ⟨rfl, rfl⟩)
  | 1, _ => exact oT_N 3 rfl (oT_Ret rfl rfl (ox_b01 _) ⟨rfl, rfl⟩)
  | 2, _ =>
    refine oT_N 5 rfl (oT_I (o := 44) (n := nI a) rfl (Or.inl ⟨rfl, by decide⟩) (n12 (by omega)) ?_)
    rw [hac, ga2]
    refine oT_N 2 rfl (oT_If (fun (q : nI (P.kd a) = nI 1) => ?_) (fun (q : ¬ nI (P.kd a) = nI 1) => ?_))
    · have hka := (ox_kdI oa2 (by decide)).mp q
      refine oT_N 3 rfl (oT_I (o := 44) (n := nI b) rfl (Or.inl ⟨rfl, by decide⟩) (n12 (by omega)) ?_)
      rw [hbc, gb2]
      refine oT_N 2 rfl (oT_If (fun (q2 : nI (P.kd b) = nI 1) => ?_) (fun (q2 : ¬ nI (P.kd b) = nI 1) => ?_))
      · have hkb := (ox_kdI ob2 (by decide)).mp q2
        cases hal : oAl P a b with
        | false =>
          refine oT_N 2 rfl (oT_If (fun _ => ?_) (fun (q : ¬ (0 : Int32) = 0) => absurd rfl q))
          refine oT_N 1 rfl (oT_Ret rfl rfl rfl ⟨?_, rfl⟩)
          simp [oGv, hal]
        | true =>
          refine oT_N 2 rfl (oT_If (fun (q : (1 : Int32) = 0) => absurd q (by decide)) (fun _ => ?_))
          refine oT_N 3 rfl (oT_I (o := 55) (n := nI a) rfl (Or.inl ⟨rfl, by decide⟩) (n12 (by omega)) ?_)
          rw [hac]
          refine oT_N 3 rfl (oT_I (o := 55) (n := nI b) rfl (Or.inl ⟨rfl, by decide⟩) (n12 (by omega)) ?_)
          rw [hbc]
          refine oT_N 1 rfl (oT_If (fun (q3 : σ 55 b ≤ σ 55 a) => ?_) (fun (q3 : ¬ σ 55 b ≤ σ 55 a) => ?_))
          · refine oT_N 1 rfl (oT_Ret rfl rfl rfl ⟨?_, rfl⟩)
            simp [oGv, Int32.not_lt.mpr q3]
          · refine oT_N 2 rfl (oT_Ret rfl rfl rfl ⟨?_, rfl⟩)
            simp [oGv, hka, hkb, hal, Int32.not_le.mp q3]
      · have hkb : P.kd b ≠ 1 := fun e => q2 (by rw [e])
        refine oT_N 1 rfl (oT_Ret rfl rfl rfl ⟨?_, rfl⟩)
        simp [oGv, hkb]
    · have hka : P.kd a ≠ 1 := fun e => q (by rw [e])
      refine oT_N 1 rfl (oT_Ret rfl rfl rfl ⟨?_, rfl⟩)
      simp [oGv, hka]
  | 3, _ =>
    refine oT_N 5 rfl (oT_I (o := 44) (n := nI a) rfl (Or.inl ⟨rfl, by decide⟩) (n12 (by omega)) ?_)
    rw [hac, ga2]
    refine oT_N 1 rfl (oT_If (fun (q : nI (P.kd a) = 0) => ?_) (fun (q : ¬ nI (P.kd a) = 0) => ?_))
    · have hka : P.kd a = 0 := (nI_eq (by omega) (by decide)).mp q
      refine oT_N 3 rfl (oT_I (o := 44) (n := nI b) rfl (Or.inl ⟨rfl, by decide⟩) (n12 (by omega)) ?_)
      rw [hbc, gb2]
      refine oT_N 2 rfl (oT_If (fun (q2 : nI (P.kd b) = nI 1) => ?_) (fun (q2 : ¬ nI (P.kd b) = nI 1) => ?_))
      · have hkb := (ox_kdI ob2 (by decide)).mp q2
        cases hal : oAl P a b with
        | false =>
          refine oT_N 2 rfl (oT_If (fun _ => ?_) (fun (q : ¬ (0 : Int32) = 0) => absurd rfl q))
          refine oT_N 1 rfl (oT_Ret rfl rfl rfl ⟨?_, rfl⟩)
          simp [oGv, hal]
        | true =>
          refine oT_N 2 rfl (oT_If (fun (q : (1 : Int32) = 0) => absurd q (by decide)) (fun _ => ?_))
          refine oT_N 2 rfl (oT_V rfl rfl rfl rfl (by omega) (by omega) (ot_sourceAt h ha) (fun x σ2 h => by cases h.1) (fun v σ2 hv => ?_))
          obtain ⟨hv, rfl⟩ := hv
          cases hv
          refine oT_N 1 rfl (oT_If (fun (q3 : σ2 52 (ocR P a) < 0) => ?_) (fun (q3 : ¬ σ2 52 (ocR P a) < 0) => ?_))
          · refine oT_N 2 rfl (oT_Ret rfl rfl rfl ⟨?_, rfl⟩)
            simp [oGv, hka, hkb, hal, q3]
          · obtain ⟨w, hw, hw2⟩ : ∃ w, w < 12 ∧ σ2 52 (ocR P a) = nI w := by
              rcases hs a ha hka with e | e
              · exact absurd e q3
              · exact e
            refine oT_N 3 rfl (oT_I (o := 55) (n := nI b) rfl (Or.inl ⟨rfl, by decide⟩) (n12 (by omega)) ?_)
            rw [hbc]
            refine oT_N 4 rfl (oT_V rfl rfl rfl rfl (by omega) (by omega) (ot_sourceAt h ha) (fun x σ2 h => by cases h.1) (fun v σ3 hv => ?_))
            obtain ⟨hv, rfl⟩ := hv
            cases hv
            refine oT_I (o := 55) (n := σ3 52 (ocR P a)) rfl (Or.inl ⟨rfl, by decide⟩) (by rw [hw2]; exact n12 hw) ?_
            refine oT_N 1 rfl (oT_If (fun (q4 : σ3 55 b ≤ σ3 55 (σ3 52 (ocR P a)).toNatClampNeg) => ?_) (fun (q4 : ¬ σ3 55 b ≤ σ3 55 (σ3 52 (ocR P a)).toNatClampNeg) => ?_))
            · refine oT_N 1 rfl (oT_Ret rfl rfl rfl ⟨?_, rfl⟩)
              simp [oGv, q3, Int32.not_lt.mpr q4]
            · refine oT_N 2 rfl (oT_Ret rfl rfl rfl ⟨?_, rfl⟩)
              simp [oGv, hka, hkb, hal, Int32.not_le.mp q4]
      · have hkb : P.kd b ≠ 1 := fun e => q2 (by rw [e])
        refine oT_N 1 rfl (oT_Ret rfl rfl rfl ⟨?_, rfl⟩)
        simp [oGv, hkb]
    · have hka : P.kd a ≠ 0 := fun e => q (by rw [e]; rfl)
      refine oT_N 1 rfl (oT_Ret rfl rfl rfl ⟨?_, rfl⟩)
      simp [oGv, hka]
  | 4, _ =>
    cases hfr : oFr P σ a b with
    | false =>
      refine oT_N 4 rfl (oT_If (fun _ => ?_) (fun (q : ¬ (0 : Int32) = 0) => absurd rfl q))
      refine oT_N 1 rfl (oT_Ret rfl rfl rfl ⟨?_, rfl⟩)
      simp [oGv, hfr]
    | true =>
      refine oT_N 4 rfl (oT_If (fun (q : (1 : Int32) = 0) => absurd q (by decide)) (fun _ => ?_))
      refine oT_N 3 rfl (oT_I (o := 43) (n := nI a) rfl (Or.inl ⟨rfl, by decide⟩) (n12 (by omega)) ?_)
      rw [hac, ga1]
      refine oT_N 3 rfl (oT_I (o := 43) (n := nI b) rfl (Or.inl ⟨rfl, by decide⟩) (n12 (by omega)) ?_)
      rw [hbc, gb1]
      refine oT_N 1 rfl (oT_If (fun (q : nI (P.th a) = nI (P.th b)) => ?_) (fun (q : ¬ nI (P.th a) = nI (P.th b)) => ?_))
      · have ht := (nI_eq (by omega) (by omega)).mp q
        refine oT_N 1 rfl (oT_Ret rfl rfl rfl ⟨?_, rfl⟩)
        simp [oGv, ht]
      · have ht : P.th a ≠ P.th b := fun e => q (by rw [e])
        refine oT_N 2 rfl (oT_Ret rfl rfl rfl ⟨?_, rfl⟩)
        simp [oGv, hfr, ht]
  | 5, _ =>
    cases hpg : oPg P a b with
    | false =>
      refine oT_N 4 rfl (oT_If (fun _ => ?_) (fun (q : ¬ (0 : Int32) = 0) => absurd rfl q))
      refine oT_N 1 rfl (oT_Ret rfl rfl rfl ⟨?_, rfl⟩)
      simp [oGv, hpg]
    | true =>
      refine oT_N 4 rfl (oT_If (fun (q : (1 : Int32) = 0) => absurd q (by decide)) (fun _ => ?_))
      cases hal : oAl P a b with
      | false =>
        refine oT_N 2 rfl (oT_If (fun _ => ?_) (fun (q : ¬ (0 : Int32) = 0) => absurd rfl q))
        refine oT_N 1 rfl (oT_Ret rfl rfl rfl ⟨?_, rfl⟩)
        simp [oGv, hal]
      | true =>
        refine oT_N 2 rfl (oT_If (fun (q : (1 : Int32) = 0) => absurd q (by decide)) (fun _ => ?_))
        refine oT_N 2 rfl (oT_Ret rfl rfl rfl ⟨?_, rfl⟩)
        simp [oGv, hpg, hal]
  | 6, _ =>
    refine oT_N 9 rfl (oT_Z (o := 47) (n := (Int8.ofInt 12).toInt32 * nI a + nI b) rfl ⟨rfl, by decide⟩ (by rw [ox_i2]; exact ox_ix (N := 144) (by omega) (by decide)) ?_)
    rw [ox_i2, nI_clamp (by omega), ga5 b hb]
    exact oT_Ret rfl rfl (ox_b01 _) ⟨rfl, rfl⟩
  | 7, _ =>
    cases hpg : oPg P a b with
    | false =>
      refine oT_N 4 rfl (oT_If (fun _ => ?_) (fun (q : ¬ (0 : Int32) = 0) => absurd rfl q))
      refine oT_N 1 rfl (oT_Ret rfl rfl rfl ⟨?_, rfl⟩)
      simp [oGv, hpg]
    | true =>
      refine oT_N 4 rfl (oT_If (fun (q : (1 : Int32) = 0) => absurd q (by decide)) (fun _ => ?_))
      refine oT_N 3 rfl (oT_V rfl rfl rfl rfl (by omega) (by omega) (ot_isFenced h ha hb) (fun x σ2 h => by cases h.1) (fun v σ2 hv => ?_))
      obtain ⟨hv, rfl⟩ := hv
      cases hv
      cases hf : (oFn P a b && decide (P.kd a ≠ 2) && decide (P.kd b ≠ 2)) with
      | false =>
        refine oT_N 1 rfl (oT_If (fun _ => ?_) (fun (q : ¬ (0 : Int32) = 0) => absurd rfl q))
        refine oT_N 1 rfl (oT_Ret rfl rfl rfl ⟨?_, rfl⟩)
        simp only [oGv, hf, Bool.and_false]
        rfl
      | true =>
        refine oT_N 1 rfl (oT_If (fun (q : (1 : Int32) = 0) => absurd q (by decide)) (fun _ => ?_))
        refine oT_N 2 rfl (oT_Ret rfl rfl rfl ⟨?_, rfl⟩)
        simp only [oGv, hf, hpg, Bool.and_true]
        rfl
  | 8, _ =>
    cases hpg : oPg P a b with
    | false =>
      refine oT_N 4 rfl (oT_If (fun _ => ?_) (fun (q : ¬ (0 : Int32) = 0) => absurd rfl q))
      refine oT_N 1 rfl (oT_Ret rfl rfl rfl ⟨?_, rfl⟩)
      simp [oGv, hpg]
    | true =>
      refine oT_N 4 rfl (oT_If (fun (q : (1 : Int32) = 0) => absurd q (by decide)) (fun _ => ?_))
      refine oT_N 3 rfl (oT_I (o := 44) (n := nI a) rfl (Or.inl ⟨rfl, by decide⟩) (n12 (by omega)) ?_)
      rw [hac, ga2]
      refine oT_N 4 rfl (oT_Div rfl (by decide) ?_)
      rw [show (nI 8 - (Int8.ofInt 8).toInt32) / Int32.ofInt 2 = nI 0 by decide]
      refine oT_N 1 rfl (oT_If (fun (q : nI (P.kd a) = nI 0) => ?_) (fun (q : ¬ nI (P.kd a) = nI 0) => ?_))
      · have hka := (ox_kdI oa2 (by decide)).mp q
        refine oT_N 3 rfl (oT_I (o := 44) (n := nI b) rfl (Or.inl ⟨rfl, by decide⟩) (n12 (by omega)) ?_)
        rw [hbc, gb2]
        refine oT_N 4 rfl (oT_Rem rfl (by decide) ?_)
        rw [show nI 8 - (Int8.ofInt 8).toInt32 - (nI 8 - (Int8.ofInt 8).toInt32) / Int32.ofInt 2 * Int32.ofInt 2 = nI 0 by decide]
        refine oT_N 1 rfl (oT_If (fun (q2 : nI (P.kd b) = nI 0) => ?_) (fun (q2 : ¬ nI (P.kd b) = nI 0) => ?_))
        · have hkb := (ox_kdI ob2 (by decide)).mp q2
          refine oT_N 2 rfl (oT_Ret rfl rfl rfl ⟨?_, rfl⟩)
          simp [oGv, hpg, hka, hkb]
        · have hkb : P.kd b ≠ 0 := fun e => q2 (by rw [e])
          refine oT_N 1 rfl (oT_Ret rfl rfl rfl ⟨?_, rfl⟩)
          simp [oGv, hkb]
      · have hka : P.kd a ≠ 0 := fun e => q (by rw [e])
        refine oT_N 1 rfl (oT_Ret rfl rfl rfl ⟨?_, rfl⟩)
        simp [oGv, hka]
  | 9, _ =>
    cases hpg : oPg P a b with
    | false =>
      refine oT_N 4 rfl (oT_If (fun _ => ?_) (fun (q : ¬ (0 : Int32) = 0) => absurd rfl q))
      refine oT_N 1 rfl (oT_Ret rfl rfl rfl ⟨?_, rfl⟩)
      simp [oGv, hpg]
    | true =>
      refine oT_N 4 rfl (oT_If (fun (q : (1 : Int32) = 0) => absurd q (by decide)) (fun _ => ?_))
      refine oT_N 3 rfl (oT_I (o := 44) (n := nI a) rfl (Or.inl ⟨rfl, by decide⟩) (n12 (by omega)) ?_)
      rw [hac, ga2]
      refine oT_N 4 rfl (oT_Div rfl (by decide) ?_)
      rw [show (nI 9 - (Int8.ofInt 8).toInt32) / Int32.ofInt 2 = nI 0 by decide]
      refine oT_N 1 rfl (oT_If (fun (q : nI (P.kd a) = nI 0) => ?_) (fun (q : ¬ nI (P.kd a) = nI 0) => ?_))
      · have hka := (ox_kdI oa2 (by decide)).mp q
        refine oT_N 3 rfl (oT_I (o := 44) (n := nI b) rfl (Or.inl ⟨rfl, by decide⟩) (n12 (by omega)) ?_)
        rw [hbc, gb2]
        refine oT_N 4 rfl (oT_Rem rfl (by decide) ?_)
        rw [show nI 9 - (Int8.ofInt 8).toInt32 - (nI 9 - (Int8.ofInt 8).toInt32) / Int32.ofInt 2 * Int32.ofInt 2 = nI 1 by decide]
        refine oT_N 1 rfl (oT_If (fun (q2 : nI (P.kd b) = nI 1) => ?_) (fun (q2 : ¬ nI (P.kd b) = nI 1) => ?_))
        · have hkb := (ox_kdI ob2 (by decide)).mp q2
          refine oT_N 2 rfl (oT_Ret rfl rfl rfl ⟨?_, rfl⟩)
          simp [oGv, hpg, hka, hkb]
        · have hkb : P.kd b ≠ 1 := fun e => q2 (by rw [e])
          refine oT_N 1 rfl (oT_Ret rfl rfl rfl ⟨?_, rfl⟩)
          simp [oGv, hkb]
      · have hka : P.kd a ≠ 0 := fun e => q (by rw [e])
        refine oT_N 1 rfl (oT_Ret rfl rfl rfl ⟨?_, rfl⟩)
        simp [oGv, hka]
  | 10, _ =>
    cases hpg : oPg P a b with
    | false =>
      refine oT_N 4 rfl (oT_If (fun _ => ?_) (fun (q : ¬ (0 : Int32) = 0) => absurd rfl q))
      refine oT_N 1 rfl (oT_Ret rfl rfl rfl ⟨?_, rfl⟩)
      simp [oGv, hpg]
    | true =>
      refine oT_N 4 rfl (oT_If (fun (q : (1 : Int32) = 0) => absurd q (by decide)) (fun _ => ?_))
      refine oT_N 3 rfl (oT_I (o := 44) (n := nI a) rfl (Or.inl ⟨rfl, by decide⟩) (n12 (by omega)) ?_)
      rw [hac, ga2]
      refine oT_N 4 rfl (oT_Div rfl (by decide) ?_)
      rw [show (nI 10 - (Int8.ofInt 8).toInt32) / Int32.ofInt 2 = nI 1 by decide]
      refine oT_N 1 rfl (oT_If (fun (q : nI (P.kd a) = nI 1) => ?_) (fun (q : ¬ nI (P.kd a) = nI 1) => ?_))
      · have hka := (ox_kdI oa2 (by decide)).mp q
        refine oT_N 3 rfl (oT_I (o := 44) (n := nI b) rfl (Or.inl ⟨rfl, by decide⟩) (n12 (by omega)) ?_)
        rw [hbc, gb2]
        refine oT_N 4 rfl (oT_Rem rfl (by decide) ?_)
        rw [show nI 10 - (Int8.ofInt 8).toInt32 - (nI 10 - (Int8.ofInt 8).toInt32) / Int32.ofInt 2 * Int32.ofInt 2 = nI 0 by decide]
        refine oT_N 1 rfl (oT_If (fun (q2 : nI (P.kd b) = nI 0) => ?_) (fun (q2 : ¬ nI (P.kd b) = nI 0) => ?_))
        · have hkb := (ox_kdI ob2 (by decide)).mp q2
          refine oT_N 2 rfl (oT_Ret rfl rfl rfl ⟨?_, rfl⟩)
          simp [oGv, hpg, hka, hkb]
        · have hkb : P.kd b ≠ 0 := fun e => q2 (by rw [e])
          refine oT_N 1 rfl (oT_Ret rfl rfl rfl ⟨?_, rfl⟩)
          simp [oGv, hkb]
      · have hka : P.kd a ≠ 1 := fun e => q (by rw [e])
        refine oT_N 1 rfl (oT_Ret rfl rfl rfl ⟨?_, rfl⟩)
        simp [oGv, hka]
  | 11, _ =>
    cases hpg : oPg P a b with
    | false =>
      refine oT_N 4 rfl (oT_If (fun _ => ?_) (fun (q : ¬ (0 : Int32) = 0) => absurd rfl q))
      refine oT_N 1 rfl (oT_Ret rfl rfl rfl ⟨?_, rfl⟩)
      simp [oGv, hpg]
    | true =>
      refine oT_N 4 rfl (oT_If (fun (q : (1 : Int32) = 0) => absurd q (by decide)) (fun _ => ?_))
      refine oT_N 3 rfl (oT_I (o := 44) (n := nI a) rfl (Or.inl ⟨rfl, by decide⟩) (n12 (by omega)) ?_)
      rw [hac, ga2]
      refine oT_N 4 rfl (oT_Div rfl (by decide) ?_)
      rw [show (nI 11 - (Int8.ofInt 8).toInt32) / Int32.ofInt 2 = nI 1 by decide]
      refine oT_N 1 rfl (oT_If (fun (q : nI (P.kd a) = nI 1) => ?_) (fun (q : ¬ nI (P.kd a) = nI 1) => ?_))
      · have hka := (ox_kdI oa2 (by decide)).mp q
        refine oT_N 3 rfl (oT_I (o := 44) (n := nI b) rfl (Or.inl ⟨rfl, by decide⟩) (n12 (by omega)) ?_)
        rw [hbc, gb2]
        refine oT_N 4 rfl (oT_Rem rfl (by decide) ?_)
        rw [show nI 11 - (Int8.ofInt 8).toInt32 - (nI 11 - (Int8.ofInt 8).toInt32) / Int32.ofInt 2 * Int32.ofInt 2 = nI 1 by decide]
        refine oT_N 1 rfl (oT_If (fun (q2 : nI (P.kd b) = nI 1) => ?_) (fun (q2 : ¬ nI (P.kd b) = nI 1) => ?_))
        · have hkb := (ox_kdI ob2 (by decide)).mp q2
          refine oT_N 2 rfl (oT_Ret rfl rfl rfl ⟨?_, rfl⟩)
          simp [oGv, hpg, hka, hkb]
        · have hkb : P.kd b ≠ 1 := fun e => q2 (by rw [e])
          refine oT_N 1 rfl (oT_Ret rfl rfl rfl ⟨?_, rfl⟩)
          simp [oGv, hkb]
      · have hka : P.kd a ≠ 1 := fun e => q (by rw [e])
        refine oT_N 1 rfl (oT_Ret rfl rfl rfl ⟨?_, rfl⟩)
        simp [oGv, hka]
  | r + 12, hr => exact absurd hr (by omega)
