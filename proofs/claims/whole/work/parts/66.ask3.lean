/-- the class holds what was looked at -/
def oCS (σ : ox_S) (S : oSe) : Prop := S.ok ∧ σ 5 0 = nI S.E ∧ σ 5 2 = nI S.R ∧ σ 5 1 = nI S.N ∧ (∀ i, i < S.R → σ 122 i = S.sc i) ∧ (∀ p, p < 4 → σ 123 p = nI (S.W p)) ∧ (∀ p i, p < 4 → i < S.W p → σ (125 + p) i = nI (S.od p i)) ∧ (∀ r a b, r < S.N → a < S.E → b < S.E → oBr σ (130 + r) a b = S.v r a b) ∧ σ 6 0 = nI S.m ∧ ∀ i, i < S.m → σ 26 i = nI (S.g i)
theorem oCS_ext {σ τ : ox_S} {S : oSe} (h : oCS σ S) (h5 : τ 5 = σ 5) (h6 : τ 6 = σ 6) (h26 : τ 26 = σ 26) (ho : ∀ o, 121 ≤ o → o ≤ 173 → τ o = σ o) : oCS τ S := by
  obtain ⟨a1, a2, a3, a4, a5, a6, a7, a8, a9, a10⟩ := h
  refine ⟨a1, by rw [h5]; exact a2, by rw [h5]; exact a3, by rw [h5]; exact a4, by rw [ho 122 (by decide) (by decide)]; exact a5, by rw [ho 123 (by decide) (by decide)]; exact a6, fun p i hp hi => by rw [ho (125 + p) (by omega) (by omega)]; exact a7 p i hp hi, fun r a b hr ha hb => ?_, by rw [h6]; exact a9, by rw [h26]; exact a10⟩
  have := a1.2.2.1
  unfold oBr
  rw [ho (130 + r) (by omega) (by omega)]
  exact a8 r a b hr ha hb
section OYM
variable {L k : Nat} {σ : ox_S} {P : oPr} {M : oMo} {T : oLs} {S : oSe}
theorem ot_countAt {i p c : Nat} (hi : i < 12) (hp : p < 4) (hc : 1 ≤ c) (hc13 : c ≤ 13) (h31 : σ 31 i = nI p) (h32 : σ 32 p = nI c) : oT L k 15 0 [some (.ref 3), some (.int (nI i))] [] σ (fun o σ' => o = .inl (some (.int (nI c))) ∧ σ' = σ) := by
  refine oT_N 6 rfl (oT_I (o := 31) (n := nI i) rfl (Or.inl ⟨rfl, by decide⟩) (ox_ix (N := 12) (by omega) (by decide)) ?_)
  rw [nI_clamp (by omega), h31]
  refine oT_I (o := 32) (n := nI p) rfl (Or.inl ⟨rfl, by decide⟩) (ox_ix (N := 4) (by omega) (by decide)) ?_
  rw [nI_clamp (by omega), h32]
  refine oT_N 1 rfl (oT_Ret rfl rfl rfl ⟨ox_o ?_, rfl⟩)
  show (if nI 1 < nI c then nI c else nI 1) = nI c
  by_cases q : 1 < c
  · rw [if_pos (nI_lt q (by omega))]
  · obtain rfl : c = 1 := by omega
    rw [if_neg (nI_nlt (Nat.le_refl _) (by decide))]
theorem ot_valueRead {a b : Nat} (h : oCL σ T) (ha : a < T.m) (hb : b < T.R) (hk : 2 ≤ k) (hk9 : k ≤ 9) : oT L k 14 0 [some (.ref 3), some (.int (nI a)), some (.int (nI b)), none, none] [] σ (fun o σ' => o = .inl (some (.int (T.V a b))) ∧ σ' = σ) := by
  obtain ⟨k, rfl⟩ : ∃ k', k = k' + 1 := ⟨k - 1, by omega⟩
  obtain ⟨a1, a2, a3, a4, a5, a6, pl, C, d, a7, a8⟩ := h
  obtain ⟨b1, b2, b3, b4, b5⟩ := a8 a ha
  refine oT_N 3 rfl (oT_I (o := 30) (n := nI a) rfl (Or.inl ⟨rfl, by decide⟩) (ox_ix (N := 5000) (by omega) (by decide)) ?_)
  rw [nI_clamp (by omega), b3]
  have hdv : ∀ j, j < T.R → oNb (fun i => C (pl i)) (d a) (j + 1) / C (pl j) = oNb (fun i => C (pl i)) (d a) j ∧ oNb (fun i => C (pl i)) (d a) (j + 1) % C (pl j) = d a j := fun j hj => oNb_dm (c := fun i => C (pl i)) (d := d a) (b1 j hj).1
  have hle : ∀ j, j ≤ T.R → oNb (fun i => C (pl i)) (d a) j < 5000 := fun j hj => by
    have key : ∀ e, j + e = T.R → oNb (fun i => C (pl i)) (d a) j ≤ oNb (fun i => C (pl i)) (d a) T.R := fun e => by
      induction e generalizing j with
      | zero => intro q; rw [show j = T.R by omega]; exact Nat.le_refl _
      | succ e ih =>
        intro q
        have h1 := ih (j + 1) (by omega) (by omega)
        have h2 := (hdv j (by omega)).1
        have h3 : oNb (fun i => C (pl i)) (d a) j ≤ oNb (fun i => C (pl i)) (d a) (j + 1) := by rw [← h2]; exact Nat.div_le_self _ _
        omega
    have := key (T.R - j) (by omega)
    omega
  have loop : ∀ (e j : Nat), b + 1 + e = j → j ≤ T.R → oT L (k + 1) 14 15 [some (.ref 3), some (.int (nI a)), some (.int (nI b)), some (.int (nI (oNb (fun i => C (pl i)) (d a) j))), some (.int (nI j + Int32.ofInt (-1)))] [] σ (fun o σ' => o = .inl (some (.int (T.V a b))) ∧ σ' = σ) := by
    intro e
    induction e with
    | zero =>
      intro j hj hR
      obtain rfl : j = b + 1 := by omega
      rw [ox_dec]
      obtain ⟨p1, p2, p3, p4, p5⟩ := a7 b hb
      obtain ⟨k1, k2, k3, -⟩ := ox_k34 (pl b) p1
      have := hle (b + 1) hR
      refine oT_N 3 rfl (oT_le b b rfl rfl (by omega) (by omega) (fun _ => ?_) (fun q => by omega))
      refine oT_N 5 rfl (oT_I (o := 31) (n := nI b) rfl (Or.inl ⟨rfl, by decide⟩) (ox_ix (N := 12) (by omega) (by decide)) ?_)
      rw [nI_clamp (by omega), p2]
      refine oT_A (o := 33) (n := nI (pl b)) rfl ⟨rfl, by decide⟩ (ox_ix (N := 4) (by omega) (by decide)) ?_
      rw [nI_clamp (by omega)]
      refine oT_N 3 rfl (oT_V rfl rfl rfl rfl (by omega) (by omega) (ot_countAt (by omega) p1 p3 p4 p2 p5) (fun x σ2 h => by cases h.1) (fun v σ2 hv => ?_))
      obtain ⟨hv, rfl⟩ := hv
      cases hv
      refine oT_Rem (x := nI (oNb (fun i => C (pl i)) (d a) (b + 1))) (y := nI (C (pl b))) rfl (nI_ne0 (by omega) (by omega)) ?_
      have hdl := (b1 b hb).1
      rw [pk_rem (by omega) (by omega) (by omega), (hdv b hb).2]
      refine oT_I (o := 34 + pl b) (n := nI (d a b)) rfl (Or.inl ⟨k1, k2⟩) (ox_ixL k2 k3 (by omega) (by decide)) ?_
      rw [nI_clamp (by omega), (b1 b hb).2]
      exact oT_Ret rfl rfl rfl ⟨rfl, rfl⟩
    | succ e ih =>
      intro j hj hR
      obtain ⟨j, rfl⟩ : ∃ j', j = j' + 1 := ⟨j - 1, by omega⟩
      rw [ox_dec]
      obtain ⟨p1, p2, p3, p4, p5⟩ := a7 j (by omega)
      have := hle (j + 1) hR
      refine oT_N 3 rfl (oT_le j b rfl rfl (by omega) (by omega) (fun q => by omega) (fun _ => ?_))
      refine oT_N 3 rfl (oT_V rfl rfl rfl rfl (by omega) (by omega) (ot_countAt (by omega) p1 p3 p4 p2 p5) (fun x σ2 h => by cases h.1) (fun v σ2 hv => ?_))
      obtain ⟨hv, rfl⟩ := hv
      cases hv
      refine oT_Div (x := nI (oNb (fun i => C (pl i)) (d a) (j + 1))) (y := nI (C (pl j))) rfl (nI_ne0 (by omega) (by omega)) ?_
      rw [pk_div (by omega) (by omega) (by omega), (hdv j (by omega)).1]
      exact oT_N 3 rfl (ih j (by omega) (by omega))
  have e := loop (T.R - (b + 1)) T.R (by omega) (Nat.le_refl _)
  rw [← ox_sub1, ← a6] at e
  exact oT_N 6 rfl e
theorem ot_outcome {a b : Int32} (h : oCL σ T) (hk : 6 ≤ k) (hk9 : k ≤ 9) : oT L k 39 0 [some (.ref 0), some (.int a), some (.int b)] [] σ (fun o σ' => σ' = σ ∧ if (0 ≤ a ∧ a < nI T.m) ∧ (0 ≤ b ∧ b < nI T.R) then o = .inl (some (.int (T.V a.toNatClampNeg b.toNatClampNeg))) else o = .inr 2) := by
  obtain ⟨k, rfl⟩ : ∃ k', k = k' + 1 := ⟨k - 1, by omega⟩
  obtain ⟨a1, a2, a3, a4, a5, a6, -⟩ := id h
  refine oT_N 4 rfl (oT_S rfl rfl rfl (by omega) (by omega) ot_isBelow' (fun x σ2 h => by cases h.1) (fun v σ2 hv => ?_))
  obtain ⟨hv, rfl⟩ := hv
  cases hv
  refine oT_N 1 rfl (oT_if1 (fun (q : ¬ (0 ≤ a ∧ a < σ2 3 2)) => ?_) (fun (q1 : 0 ≤ a ∧ a < σ2 3 2) => ?_))
  · rw [a3] at q
    refine oT_T rfl (by decide) (by omega) (by omega) ⟨rfl, ?_⟩
    rw [if_neg (fun e => q e.1)]
  rw [a3] at q1
  refine oT_N 4 rfl (oT_S rfl rfl rfl (by omega) (by omega) ot_isBelow' (fun x σ2 h => by cases h.1) (fun v σ3 hv => ?_))
  obtain ⟨hv, rfl⟩ := hv
  cases hv
  refine oT_N 1 rfl (oT_if1 (fun (q : ¬ (0 ≤ b ∧ b < σ3 3 3)) => ?_) (fun (q2 : 0 ≤ b ∧ b < σ3 3 3) => ?_))
  · rw [a6] at q
    refine oT_T rfl (by decide) (by omega) (by omega) ⟨rfl, ?_⟩
    rw [if_neg (fun e => q e.2)]
  rw [a6] at q2
  obtain ⟨ea, la⟩ := ox_natlt q1.1 q1.2 (by omega)
  obtain ⟨eb, lb⟩ := ox_natlt q2.1 q2.2 (by omega)
  have vr := ot_valueRead (L := L) (k := k) h la lb (by omega) (by omega)
  rw [← ea, ← eb] at vr
  refine oT_N 4 rfl (oT_V rfl rfl rfl rfl (by omega) (by omega) vr (fun x σ2 h => by cases h.1) (fun v σ2 hv => ?_))
  obtain ⟨hv, rfl⟩ := hv
  cases hv
  refine oT_Ret rfl rfl rfl ⟨rfl, ?_⟩
  rw [if_pos ⟨q1, q2⟩]
theorem ot_witness {a b : Int32} (h : oCL σ T) (hk : 6 ≤ k) (hk9 : k ≤ 9) : oT L k 40 0 [some (.ref 0), some (.int a), some (.int b)] [] σ (fun o σ' => σ' = σ ∧ if (0 ≤ a ∧ a < nI T.m) ∧ (0 ≤ b ∧ b < nI 2) then o = .inl (some (.int (if b = 0 then nI (T.c a.toNatClampNeg) else nI (T.f a.toNatClampNeg)))) else o = .inr 2) := by
  obtain ⟨k, rfl⟩ : ∃ k', k = k' + 1 := ⟨k - 1, by omega⟩
  obtain ⟨a1, a2, a3, a4, a5, a6, pl, C, d, a7, a8⟩ := id h
  refine oT_N 4 rfl (oT_S rfl rfl rfl (by omega) (by omega) ot_isBelow' (fun x σ2 h => by cases h.1) (fun v σ2 hv => ?_))
  obtain ⟨hv, rfl⟩ := hv
  cases hv
  refine oT_N 1 rfl (oT_if1 (fun (q : ¬ (0 ≤ a ∧ a < σ2 3 2)) => ?_) (fun (q1 : 0 ≤ a ∧ a < σ2 3 2) => ?_))
  · rw [a3] at q
    refine oT_T rfl (by decide) (by omega) (by omega) ⟨rfl, ?_⟩
    rw [if_neg (fun e => q e.1)]
  rw [a3] at q1
  refine oT_N 2 rfl (oT_S rfl rfl rfl (by omega) (by omega) ot_isBelow' (fun x σ2 h => by cases h.1) (fun v σ3 hv => ?_))
  obtain ⟨hv, rfl⟩ := hv
  cases hv
  refine oT_N 1 rfl (oT_if1 (fun (q : ¬ (0 ≤ b ∧ b < nI 2)) => ?_) (fun (q2 : 0 ≤ b ∧ b < nI 2) => ?_))
  · refine oT_T rfl (by decide) (by omega) (by omega) ⟨rfl, ?_⟩
    rw [if_neg (fun e => q e.2)]
  obtain ⟨ea, la⟩ := ox_natlt q1.1 q1.2 (by omega)
  obtain ⟨-, -, -, b4, b5⟩ := a8 _ la
  refine oT_N 2 rfl (oT_If (fun (q0 : b = 0) => ?_) (fun (q0 : ¬ b = 0) => ?_))
  · refine oT_N 4 rfl (oT_I (o := 28) (n := a) rfl (Or.inl ⟨rfl, by decide⟩) (by rw [ea]; exact ox_ix (N := 5000) (by omega) (by decide)) ?_)
    rw [b4]
    refine oT_N 1 rfl (oT_Ret rfl rfl rfl ⟨rfl, ?_⟩)
    rw [if_pos ⟨q1, q2⟩, if_pos q0]
  · refine oT_N 4 rfl (oT_I (o := 29) (n := a) rfl (Or.inl ⟨rfl, by decide⟩) (by rw [ea]; exact ox_ix (N := 5000) (by omega) (by decide)) ?_)
    rw [b5]
    refine oT_Ret rfl rfl rfl ⟨rfl, ?_⟩
    rw [if_pos ⟨q1, q2⟩, if_neg q0]
theorem ot_source {a : Int32} (h : oCS σ S) (hk : 6 ≤ k) (hk9 : k ≤ 9) : oT L k 42 0 [some (.ref 0), some (.int a)] [] σ (fun o σ' => σ' = σ ∧ if 0 ≤ a ∧ a < nI S.R then o = .inl (some (.int (S.sc a.toNatClampNeg))) else o = .inr 2) := by
  obtain ⟨k, rfl⟩ : ∃ k', k = k' + 1 := ⟨k - 1, by omega⟩
  obtain ⟨⟨t1, t2, t3, t4, t5⟩, h2, h3, h4, h5, -⟩ := h
  refine oT_N 4 rfl (oT_S rfl rfl rfl (by omega) (by omega) ot_isBelow' (fun x σ2 h => by cases h.1) (fun v σ2 hv => ?_))
  obtain ⟨hv, rfl⟩ := hv
  cases hv
  refine oT_N 1 rfl (oT_if1 (fun (q : ¬ (0 ≤ a ∧ a < σ2 5 2)) => ?_) (fun (q1 : 0 ≤ a ∧ a < σ2 5 2) => ?_))
  · rw [h3] at q
    refine oT_T rfl (by decide) (by omega) (by omega) ⟨rfl, ?_⟩
    rw [if_neg q]
  rw [h3] at q1
  obtain ⟨ea, la⟩ := ox_natlt q1.1 q1.2 (by omega)
  refine oT_N 4 rfl (oT_I (o := 122) (n := a) rfl (Or.inl ⟨rfl, by decide⟩) (by rw [ea]; exact ox_ix (N := 12) (by omega) (by decide)) ?_)
  rw [h5 _ la]
  refine oT_Ret rfl rfl rfl ⟨rfl, ?_⟩
  rw [if_pos q1]
theorem ot_order {a b : Int32} (h : oCS σ S) (hk : 6 ≤ k) (hk9 : k ≤ 9) : oT L k 43 0 [some (.ref 0), some (.int a), some (.int b)] [] σ (fun o σ' => σ' = σ ∧ if (0 ≤ a ∧ a < nI 4) ∧ (0 ≤ b ∧ b < nI (S.W a.toNatClampNeg)) then o = .inl (some (.int (nI (S.od a.toNatClampNeg b.toNatClampNeg)))) else o = .inr 2) := by
  obtain ⟨k, rfl⟩ : ∃ k', k = k' + 1 := ⟨k - 1, by omega⟩
  obtain ⟨⟨t1, t2, t3, t4, t5⟩, h2, h3, h4, h5, h6, h7, -⟩ := h
  refine oT_N 2 rfl (oT_S rfl rfl rfl (by omega) (by omega) ot_isBelow' (fun x σ2 h => by cases h.1) (fun v σ2 hv => ?_))
  obtain ⟨hv, rfl⟩ := hv
  cases hv
  refine oT_N 1 rfl (oT_if1 (fun (q : ¬ (0 ≤ a ∧ a < nI 4)) => ?_) (fun (q1 : 0 ≤ a ∧ a < nI 4) => ?_))
  · refine oT_T rfl (by decide) (by omega) (by omega) ⟨rfl, ?_⟩
    rw [if_neg (fun e => q e.1)]
  obtain ⟨ea, (la : a.toNatClampNeg < 4)⟩ := ox_natlt q1.1 q1.2 (by decide)
  have hw := t4 _ la
  refine oT_N 5 rfl (oT_I (o := 123) (n := a) rfl (Or.inl ⟨rfl, by decide⟩) (by rw [ea]; exact ox_ix (N := 4) (by omega) (by decide)) ?_)
  rw [h6 _ la]
  refine oT_S rfl rfl rfl (by omega) (by omega) ot_isBelow' (fun x σ2 h => by cases h.1) (fun v σ3 hv => ?_)
  obtain ⟨hv, rfl⟩ := hv
  cases hv
  refine oT_N 1 rfl (oT_if1 (fun q => ?_) (fun q2 => ?_))
  · refine oT_T rfl (by decide) (by omega) (by omega) ⟨rfl, ?_⟩
    rw [if_neg (fun e => q e.2)]
  obtain ⟨eb, lb⟩ := ox_natlt q2.1 q2.2 (by omega)
  have r := (oRw_72 _ la).2
  have ca : a.toNatClampNeg = a.toNatClampNeg := rfl
  refine oT_N 4 rfl (oT_A (o := 124) (n := a) rfl ⟨rfl, by decide⟩ (by rw [ea]; exact ox_ix (N := 4) (by omega) (by decide)) ?_)
  refine oT_N 1 rfl (oT_I (o := 125 + a.toNatClampNeg) (n := b) rfl (Or.inl ⟨r.1, r.2.1⟩) (by rw [eb]; exact ox_ixL r.2.1 r.2.2 (by omega) (by decide)) ?_)
  rw [h7 _ _ la lb]
  refine oT_Ret rfl rfl rfl ⟨rfl, ?_⟩
  rw [if_pos ⟨q1, q2⟩]
theorem ot_related {a b c : Int32} (h : oCS σ S) (hk : 6 ≤ k) (hk9 : k ≤ 9) : oT L k 44 0 [some (.ref 0), some (.int a), some (.int b), some (.int c)] [] σ (fun o σ' => σ' = σ ∧ if (0 ≤ a ∧ a < nI S.N) ∧ (0 ≤ b ∧ b < nI S.E) ∧ (0 ≤ c ∧ c < nI S.E) then o = .inl (some (.int (if S.v a.toNatClampNeg b.toNatClampNeg c.toNatClampNeg then 1 else 0))) else o = .inr 2) := by
  obtain ⟨k, rfl⟩ : ∃ k', k = k' + 1 := ⟨k - 1, by omega⟩
  obtain ⟨⟨t1, t2, t3, t4, t5⟩, h2, h3, h4, h5, h6, h7, h8, -⟩ := h
  refine oT_N 4 rfl (oT_S rfl rfl rfl (by omega) (by omega) ot_isBelow' (fun x σ2 h => by cases h.1) (fun v σ2 hv => ?_))
  obtain ⟨hv, rfl⟩ := hv
  cases hv
  refine oT_N 1 rfl (oT_if1 (fun (q : ¬ (0 ≤ a ∧ a < σ2 5 1)) => ?_) (fun (q1 : 0 ≤ a ∧ a < σ2 5 1) => ?_))
  · rw [h4] at q
    refine oT_T rfl (by decide) (by omega) (by omega) ⟨rfl, ?_⟩
    rw [if_neg (fun e => q e.1)]
  rw [h4] at q1
  refine oT_N 4 rfl (oT_S rfl rfl rfl (by omega) (by omega) ot_isBelow' (fun x σ2 h => by cases h.1) (fun v σ3 hv => ?_))
  obtain ⟨hv, rfl⟩ := hv
  cases hv
  refine oT_N 1 rfl (oT_if1 (fun (q : ¬ (0 ≤ b ∧ b < σ3 5 0)) => ?_) (fun (q2 : 0 ≤ b ∧ b < σ3 5 0) => ?_))
  · rw [h2] at q
    refine oT_T rfl (by decide) (by omega) (by omega) ⟨rfl, ?_⟩
    rw [if_neg (fun e => q e.2.1)]
  rw [h2] at q2
  refine oT_N 4 rfl (oT_S rfl rfl rfl (by omega) (by omega) ot_isBelow' (fun x σ2 h => by cases h.1) (fun v σ2 hv => ?_))
  obtain ⟨hv, rfl⟩ := hv
  cases hv
  refine oT_N 1 rfl (oT_if1 (fun (q : ¬ (0 ≤ c ∧ c < σ2 5 0)) => ?_) (fun (q3 : 0 ≤ c ∧ c < σ2 5 0) => ?_))
  · rw [h2] at q
    refine oT_T rfl (by decide) (by omega) (by omega) ⟨rfl, ?_⟩
    rw [if_neg (fun e => q e.2.2)]
  rw [h2] at q3
  obtain ⟨ea, la⟩ := ox_natlt q1.1 q1.2 (by omega)
  obtain ⟨eb, lb⟩ := ox_natlt q2.1 q2.2 (by omega)
  obtain ⟨ec, lc⟩ := ox_natlt q3.1 q3.2 (by omega)
  have r := (oRw_77 a.toNatClampNeg (by omega)).2
  have hv8 := h8 _ _ _ la lb lc
  refine oT_N 4 rfl (oT_A (o := 129) (n := a) rfl ⟨rfl, by decide⟩ (by rw [ea]; exact ox_ix (N := 40) (by omega) (by decide)) ?_)
  refine oT_N 1 rfl (oT_I (o := 130 + a.toNatClampNeg) (n := b) rfl (Or.inl ⟨r.1, r.2.1⟩) (by rw [eb]; exact ox_ixL r.2.1 r.2.2 (by omega) (by decide)) ?_)
  rw [ec]
  refine oT_N 5 rfl (oT_bit c.toNatClampNeg (by omega) (fun q => ?_) (fun q => ?_))
  · refine oT_N 1 rfl (oT_Ret rfl rfl rfl ⟨rfl, ?_⟩)
    rw [← ec, if_pos ⟨q1, q2, q3⟩, ← hv8, show oBr σ2 (130 + a.toNatClampNeg) b.toNatClampNeg c.toNatClampNeg = false from q]
    rfl
  · refine oT_N 2 rfl (oT_Ret rfl rfl rfl ⟨rfl, ?_⟩)
    rw [← ec, if_pos ⟨q1, q2, q3⟩, ← hv8, show oBr σ2 (130 + a.toNatClampNeg) b.toNatClampNeg c.toNatClampNeg = true from q]
    rfl
theorem ot_ring (h : oCS σ S) : oT L k 45 0 [some (.ref 0)] [] σ (fun o σ' => o = .inl (some (.int (nI S.m))) ∧ σ' = σ) :=
  oT_N 3 rfl (oT_Ret rfl rfl rfl ⟨ox_o h.2.2.2.2.2.2.2.2.1, rfl⟩)
theorem ot_ringAt {a : Int32} (h : oCS σ S) (hk : 6 ≤ k) (hk9 : k ≤ 9) : oT L k 46 0 [some (.ref 0), some (.int a)] [] σ (fun o σ' => σ' = σ ∧ if 0 ≤ a ∧ a < nI S.m then o = .inl (some (.int (nI (S.g a.toNatClampNeg)))) else o = .inr 2) := by
  obtain ⟨k, rfl⟩ : ∃ k', k = k' + 1 := ⟨k - 1, by omega⟩
  obtain ⟨⟨t1, t2, t3, t4, t5⟩, h2, h3, h4, h5, -, -, -, h9, h10⟩ := h
  refine oT_N 4 rfl (oT_S rfl rfl rfl (by omega) (by omega) ot_isBelow' (fun x σ2 h => by cases h.1) (fun v σ2 hv => ?_))
  obtain ⟨hv, rfl⟩ := hv
  cases hv
  refine oT_N 1 rfl (oT_if1 (fun (q : ¬ (0 ≤ a ∧ a < σ2 6 0)) => ?_) (fun (q1 : 0 ≤ a ∧ a < σ2 6 0) => ?_))
  · rw [h9] at q
    refine oT_T rfl (by decide) (by omega) (by omega) ⟨rfl, ?_⟩
    rw [if_neg q]
  rw [h9] at q1
  obtain ⟨ea, la⟩ := ox_natlt q1.1 q1.2 (by omega)
  refine oT_N 4 rfl (oT_I (o := 26) (n := a) rfl (Or.inl ⟨rfl, by decide⟩) (by rw [ea]; exact ox_ix (N := 12) (by omega) (by decide)) ?_)
  rw [h10 _ la]
  refine oT_Ret rfl rfl rfl ⟨rfl, ?_⟩
  rw [if_pos q1]
theorem ot_count {x : Int32} (h : oC σ P) (hm : oCo σ M) (hl : oCL σ T) : oT L k 47 0 [some (.ref 0), some (.int x)] [] σ (fun o σ' => o = .inl (some (.int (oCt P M T x))) ∧ σ' = σ) := by
  obtain ⟨t1, t2, t3, t4, t5, t6, -⟩ := hl
  rcases pk_ix x (n := 8) (by decide) with q | q | ⟨j, hj, rfl⟩
  · refine oT_N 1 rfl (oT_TsD rfl (ox_out8 (Or.inl q)) (by decide) (oT_N 1 rfl (oT_Ret rfl rfl rfl ⟨ox_o ?_, rfl⟩)))
    unfold oCt
    rw [if_pos (Or.inl q)]
    rfl
  · refine oT_N 1 rfl (oT_TsD rfl (ox_out8 (Or.inr q)) (by decide) (oT_N 1 rfl (oT_Ret rfl rfl rfl ⟨ox_o ?_, rfl⟩)))
    unfold oCt
    rw [if_pos (Or.inr q)]
    rfl
  · rw [oCt_j hj]
    match j, hj with
    | 0, _ => exact oT_N 2 rfl (oT_N 3 rfl (oT_Ret rfl rfl rfl ⟨ox_o h.2.1, rfl⟩))
    | 1, _ => exact oT_N 2 rfl (oT_N 3 rfl (oT_Ret rfl rfl rfl ⟨ox_o h.2.2.1, rfl⟩))
    | 2, _ => exact oT_N 2 rfl (oT_N 3 rfl (oT_Ret rfl rfl rfl ⟨ox_o h.2.2.2.1, rfl⟩))
    | 3, _ => exact oT_N 2 rfl (oT_N 3 rfl (oT_Ret rfl rfl rfl ⟨ox_o hm.2.1, rfl⟩))
    | 4, _ => exact oT_N 2 rfl (oT_N 3 rfl (oT_Ret rfl rfl rfl ⟨ox_o hm.2.2.1, rfl⟩))
    | 5, _ => exact oT_N 2 rfl (oT_N 3 rfl (oT_Ret rfl rfl rfl ⟨ox_o t3, rfl⟩))
    | 6, _ => exact oT_N 2 rfl (oT_N 3 rfl (oT_Ret rfl rfl rfl ⟨ox_o t4, rfl⟩))
    | 7, _ => exact oT_N 2 rfl (oT_N 3 rfl (oT_Ret rfl rfl rfl ⟨ox_o t5, rfl⟩))
    | j + 8, hj => exact absurd hj (by omega)
end OYM
