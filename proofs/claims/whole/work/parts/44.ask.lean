/-- what a run listed: outcomes, their words, counts, firsts; executions, allowed, reads -/
abbrev oLs : Type := Nat × (Nat → Nat → Int32) × (Nat → Nat) × (Nat → Nat) × Nat × Nat × Nat
abbrev oLs.m (T : oLs) : Nat := T.1
abbrev oLs.V (T : oLs) : Nat → Nat → Int32 := T.2.1
abbrev oLs.c (T : oLs) : Nat → Nat := T.2.2.1
abbrev oLs.f (T : oLs) : Nat → Nat := T.2.2.2.1
abbrev oLs.N (T : oLs) : Nat := T.2.2.2.2.1
abbrev oLs.A (T : oLs) : Nat := T.2.2.2.2.2.1
abbrev oLs.R (T : oLs) : Nat := T.2.2.2.2.2.2
/-- the reference holds the list -/
def oRL (σ : ox_S) (T : oLs) : Prop := T.m ≤ 5000 ∧ T.R ≤ 12 ∧ σ 7 20 = nI T.m ∧ σ 7 21 = nI T.N ∧ σ 7 22 = nI T.A ∧ σ 7 23 = nI T.R ∧ ∃ ρ : Nat → Nat, ∀ k, k < T.m → ρ k < T.m ∧ σ 58 k = nI (ρ k) ∧ (∀ i, i < T.R → σ 59 (12 * ρ k + i) = T.V k i) ∧ σ 60 (ρ k) = nI (T.c k) ∧ σ 61 (ρ k) = nI (T.f k)
theorem oRL_ext {σ τ : ox_S} {T : oLs} (h : oRL σ T) (h7 : ∀ q, 20 ≤ q → q ≤ 23 → τ 7 q = σ 7 q) (ho : ∀ o, 58 ≤ o → o ≤ 61 → τ o = σ o) : oRL τ T := by
  obtain ⟨h1, h2, h3, h4, h5, h6, ρ, h8⟩ := h
  refine ⟨h1, h2, by rw [h7 20 (by decide) (by decide)]; exact h3, by rw [h7 21 (by decide) (by decide)]; exact h4, by rw [h7 22 (by decide) (by decide)]; exact h5, by rw [h7 23 (by decide) (by decide)]; exact h6, ρ, fun k hk => ?_⟩
  rw [ho 58 (by decide) (by decide), ho 59 (by decide) (by decide), ho 60 (by decide) (by decide), ho 61 (by decide) (by decide)]
  exact h8 k hk
theorem oRS_ext {σ τ : ox_S} {S : oSe} (h : oRS σ S) (h7 : ∀ q, 29 ≤ q → q ≤ 32 → τ 7 q = σ 7 q) (ho : ∀ o, 63 ≤ o → o ≤ 67 → τ o = σ o) : oRS τ S := by
  obtain ⟨h1, h2, h3, h4, h5, h6, h8, h9, h10, h11⟩ := h
  refine ⟨h1, by rw [h7 29 (by decide) (by decide)]; exact h2, by rw [h7 30 (by decide) (by decide)]; exact h3, by rw [h7 31 (by decide) (by decide)]; exact h4, ?_, ?_, ?_, ?_, by rw [h7 32 (by decide) (by decide)]; exact h10, ?_⟩
  · rw [ho 63 (by decide) (by decide)]; exact h5
  · rw [ho 65 (by decide) (by decide)]; exact h6
  · rw [ho 64 (by decide) (by decide)]; exact h8
  · rw [ho 67 (by decide) (by decide)]; exact h9
  · rw [ho 66 (by decide) (by decide)]; exact h11
section OXA
variable {L k : Nat} {σ : ox_S} {P : oPr} {M : oMo} {T : oLs} {S : oSe}
theorem ot_thrown : oT L k 51 0 [some (.ref 7)] [] σ (fun o σ' => o = .inl (some (.int (σ 7 0))) ∧ σ' = σ) := oT_N 2 rfl (oT_Ret rfl rfl rfl ⟨rfl, rfl⟩)
/-- a question with an index that is refused: throwing(true, false), then 0 -/
theorem ot_moutcome {a b : Int32} (h : oRL σ T) (hk : 2 ≤ k) (hk9 : k ≤ 9) : oT L k 82 0 [some (.ref 7), some (.int a), some (.int b)] [] σ (fun o σ' => if (0 ≤ a ∧ a < nI T.m) ∧ (0 ≤ b ∧ b < nI T.R) then o = .inl (some (.int (T.V a.toNatClampNeg b.toNatClampNeg))) ∧ σ' = ox_up σ 7 0 0 else (∃ x, o = .inl (some (.int x))) ∧ σ' = ox_up σ 7 0 1) := by
  obtain ⟨k, rfl⟩ : ∃ k', k = k' + 1 := ⟨k - 1, by omega⟩
  obtain ⟨t1, t2, t3, t4, t5, t6, ρ, t7⟩ := h
  generalize hPo : (fun (o : ox_O) (σ' : ox_S) => if (0 ≤ a ∧ a < nI T.m) ∧ (0 ≤ b ∧ b < nI T.R) then o = .inl (some (.int (T.V a.toNatClampNeg b.toNatClampNeg))) ∧ σ' = ox_up σ 7 0 0 else (∃ x, o = .inl (some (.int x))) ∧ σ' = ox_up σ 7 0 1) = Post
  have bad : ¬ ((0 ≤ a ∧ a < nI T.m) ∧ (0 ≤ b ∧ b < nI T.R)) → oT L (k + 1) 82 23 [some (.ref 7), some (.int a), some (.int b)] [.ref 7] σ Post := fun hb => by
    refine oT_N 3 rfl (oT_V rfl rfl rfl rfl (by omega) (by omega) ot_thr1 (fun x σ2 h => by cases h.1) (fun v σ2 hv => ?_))
    obtain ⟨hv, rfl⟩ := hv
    cases hv
    refine oT_N 1 rfl (oT_If (fun (q : (1 : Int32) = 0) => absurd q (by decide)) (fun _ => ?_))
    refine oT_N 1 rfl (oT_Ret rfl rfl rfl ?_)
    subst hPo
    try dsimp only
    rw [if_neg hb]
    exact ⟨⟨_, rfl⟩, rfl⟩
  refine oT_N 4 rfl (oT_S rfl rfl rfl (by omega) (by omega) ot_isOf (fun x σ2 h => by cases h.1) (fun v σ2 hv => ?_))
  obtain ⟨hv, rfl⟩ := hv
  cases hv
  rw [t3]
  refine oT_N 1 rfl (oT_if1 (fun q => bad (fun g => q g.1)) (fun q1 => ?_))
  refine oT_N 3 rfl (oT_S rfl rfl rfl (by omega) (by omega) ot_isOf (fun x σ2 h => by cases h.1) (fun v σ3 hv => ?_))
  obtain ⟨hv, rfl⟩ := hv
  cases hv
  rw [t6]
  refine oT_N 1 rfl (oT_if1 (fun q => bad (fun g => q g.2)) (fun q2 => ?_))
  refine oT_N 2 rfl (oT_V rfl rfl rfl rfl (by omega) (by omega) ot_thr0 (fun x σ2 h => by cases h.1) (fun v σ2 hv => ?_))
  obtain ⟨hv, rfl⟩ := hv
  cases hv
  show oT L (k + 1) 82 32 [some (.ref 7), some (.int a), some (.int b)] [.int 0] (ox_up σ3 7 0 0) Post
  refine oT_N 1 rfl (oT_If (fun _ => ?_) (fun (q : ¬ (0 : Int32) = 0) => absurd rfl q))
  obtain ⟨ea, la⟩ := ox_natlt q1.1 q1.2 (by omega)
  obtain ⟨eb, lb⟩ := ox_natlt q2.1 q2.2 (by omega)
  obtain ⟨s1, s2, s3, s4, s5⟩ := t7 _ la
  refine oT_N 6 rfl (oT_I (o := 58) (n := a) rfl (Or.inl ⟨rfl, by decide⟩) (by rw [ea]; exact ox_ix (N := 5000) (by omega) (by decide)) ?_)
  rw [ox_up_ne (by decide), s2]
  have hix : (Int8.ofInt 12).toInt32 * nI (ρ a.toNatClampNeg) + b = nI (12 * ρ a.toNatClampNeg + b.toNatClampNeg) := by
    have := ox_i2 (ρ a.toNatClampNeg) b.toNatClampNeg
    rw [← eb] at this
    exact this
  refine oT_N 3 rfl (oT_I (o := 59) (n := (Int8.ofInt 12).toInt32 * nI (ρ a.toNatClampNeg) + b) rfl (Or.inl ⟨rfl, by decide⟩) (by rw [hix]; exact ox_ix (N := 60000) (by omega) (by decide)) ?_)
  rw [hix, nI_clamp (by omega), ox_up_ne (by decide), s3 _ lb]
  refine oT_Ret rfl rfl rfl ?_
  subst hPo
  try dsimp only
  rw [if_pos ⟨q1, q2⟩]
  exact ⟨rfl, rfl⟩
theorem ot_mwitness {a b : Int32} (h : oRL σ T) (hk : 2 ≤ k) (hk9 : k ≤ 9) : oT L k 83 0 [some (.ref 7), some (.int a), some (.int b)] [] σ (fun o σ' => if (0 ≤ a ∧ a < nI T.m) ∧ (0 ≤ b ∧ b < nI 2) then o = .inl (some (.int (if b = 0 then nI (T.c a.toNatClampNeg) else nI (T.f a.toNatClampNeg)))) ∧ σ' = ox_up σ 7 0 0 else (∃ x, o = .inl (some (.int x))) ∧ σ' = ox_up σ 7 0 1) := by
  obtain ⟨k, rfl⟩ : ∃ k', k = k' + 1 := ⟨k - 1, by omega⟩
  obtain ⟨t1, t2, t3, t4, t5, t6, ρ, t7⟩ := h
  generalize hPo : (fun (o : ox_O) (σ' : ox_S) => if (0 ≤ a ∧ a < nI T.m) ∧ (0 ≤ b ∧ b < nI 2) then o = .inl (some (.int (if b = 0 then nI (T.c a.toNatClampNeg) else nI (T.f a.toNatClampNeg)))) ∧ σ' = ox_up σ 7 0 0 else (∃ x, o = .inl (some (.int x))) ∧ σ' = ox_up σ 7 0 1) = Post
  have bad : ¬ ((0 ≤ a ∧ a < nI T.m) ∧ (0 ≤ b ∧ b < nI 2)) → oT L (k + 1) 83 20 [some (.ref 7), some (.int a), some (.int b)] [.ref 7] σ Post := fun hb => by
    refine oT_N 3 rfl (oT_V rfl rfl rfl rfl (by omega) (by omega) ot_thr1 (fun x σ2 h => by cases h.1) (fun v σ2 hv => ?_))
    obtain ⟨hv, rfl⟩ := hv
    cases hv
    refine oT_N 1 rfl (oT_If (fun (q : (1 : Int32) = 0) => absurd q (by decide)) (fun _ => ?_))
    refine oT_N 1 rfl (oT_Ret rfl rfl rfl ?_)
    subst hPo
    try dsimp only
    rw [if_neg hb]
    exact ⟨⟨_, rfl⟩, rfl⟩
  refine oT_N 4 rfl (oT_S rfl rfl rfl (by omega) (by omega) ot_isOf (fun x σ2 h => by cases h.1) (fun v σ2 hv => ?_))
  obtain ⟨hv, rfl⟩ := hv
  cases hv
  rw [t3]
  refine oT_N 1 rfl (oT_if1 (fun q => bad (fun g => q g.1)) (fun q1 => ?_))
  refine oT_N 2 rfl (oT_S rfl rfl rfl (by omega) (by omega) ot_isOf (fun x σ2 h => by cases h.1) (fun v σ3 hv => ?_))
  obtain ⟨hv, rfl⟩ := hv
  cases hv
  refine oT_N 1 rfl (oT_if1 (fun q => bad (fun g => q g.2)) (fun q2 => ?_))
  refine oT_N 2 rfl (oT_V rfl rfl rfl rfl (by omega) (by omega) ot_thr0 (fun x σ2 h => by cases h.1) (fun v σ2 hv => ?_))
  obtain ⟨hv, rfl⟩ := hv
  cases hv
  show oT L (k + 1) 83 29 [some (.ref 7), some (.int a), some (.int b)] [.int 0] (ox_up σ3 7 0 0) Post
  refine oT_N 1 rfl (oT_If (fun _ => ?_) (fun (q : ¬ (0 : Int32) = 0) => absurd rfl q))
  obtain ⟨ea, la⟩ := ox_natlt q1.1 q1.2 (by omega)
  obtain ⟨s1, s2, s3, s4, s5⟩ := t7 _ la
  refine oT_N 2 rfl (oT_If (fun (q0 : b = 0) => ?_) (fun (q0 : ¬ b = 0) => ?_))
  · refine oT_N 5 rfl (oT_I (o := 58) (n := a) rfl (Or.inl ⟨rfl, by decide⟩) (by rw [ea]; exact ox_ix (N := 5000) (by omega) (by decide)) ?_)
    rw [ox_up_ne (by decide), s2]
    refine oT_I (o := 60) (n := nI (ρ a.toNatClampNeg)) rfl (Or.inl ⟨rfl, by decide⟩) (ox_ix (N := 5000) (by omega) (by decide)) ?_
    rw [nI_clamp (by omega), ox_up_ne (by decide), s4]
    refine oT_N 1 rfl (oT_Ret rfl rfl rfl ?_)
    subst hPo
    try dsimp only
    rw [if_pos ⟨q1, q2⟩, if_pos q0]
    exact ⟨rfl, rfl⟩
  · refine oT_N 5 rfl (oT_I (o := 58) (n := a) rfl (Or.inl ⟨rfl, by decide⟩) (by rw [ea]; exact ox_ix (N := 5000) (by omega) (by decide)) ?_)
    rw [ox_up_ne (by decide), s2]
    refine oT_I (o := 61) (n := nI (ρ a.toNatClampNeg)) rfl (Or.inl ⟨rfl, by decide⟩) (ox_ix (N := 5000) (by omega) (by decide)) ?_
    rw [nI_clamp (by omega), ox_up_ne (by decide), s5]
    refine oT_Ret rfl rfl rfl ?_
    subst hPo
    try dsimp only
    rw [if_pos ⟨q1, q2⟩, if_neg q0]
    exact ⟨rfl, rfl⟩
theorem ot_msource {a : Int32} (h : oRS σ S) (hk : 2 ≤ k) (hk9 : k ≤ 9) : oT L k 86 0 [some (.ref 7), some (.int a)] [] σ (fun o σ' => if 0 ≤ a ∧ a < nI S.R then o = .inl (some (.int (S.sc a.toNatClampNeg))) ∧ σ' = ox_up σ 7 0 0 else (∃ x, o = .inl (some (.int x))) ∧ σ' = ox_up σ 7 0 1) := by
  obtain ⟨k, rfl⟩ : ∃ k', k = k' + 1 := ⟨k - 1, by omega⟩
  obtain ⟨⟨t1, t2, t3, t4, t5⟩, h2, h3, h4, h5, -⟩ := h
  refine oT_N 4 rfl (oT_S rfl rfl rfl (by omega) (by omega) ot_isOf (fun x σ2 h => by cases h.1) (fun v σ2 hv => ?_))
  obtain ⟨hv, rfl⟩ := hv
  cases hv
  rw [h3]
  refine oT_N 1 rfl (oT_if1 (fun q => ?_) (fun q1 => ?_))
  · refine oT_N 3 rfl (oT_V rfl rfl rfl rfl (by omega) (by omega) ot_thr1 (fun x σ2 h => by cases h.1) (fun v σ2 hv => ?_))
    obtain ⟨hv, rfl⟩ := hv
    cases hv
    refine oT_N 1 rfl (oT_If (fun (q : (1 : Int32) = 0) => absurd q (by decide)) (fun _ => ?_))
    refine oT_N 2 rfl (oT_Ret rfl rfl rfl ?_)
    rw [if_neg q]
    exact ⟨⟨_, rfl⟩, rfl⟩
  · refine oT_N 2 rfl (oT_V rfl rfl rfl rfl (by omega) (by omega) ot_thr0 (fun x σ2 h => by cases h.1) (fun v σ3 hv => ?_))
    obtain ⟨hv, rfl⟩ := hv
    cases hv
    show oT L (k + 1) 86 21 [some (.ref 7), some (.int a)] [.int 0] (ox_up σ2 7 0 0) _
    refine oT_N 1 rfl (oT_If (fun _ => ?_) (fun (q : ¬ (0 : Int32) = 0) => absurd rfl q))
    obtain ⟨ea, la⟩ := ox_natlt q1.1 q1.2 (by omega)
    refine oT_N 3 rfl (oT_I (o := 63) (n := a) rfl (Or.inl ⟨rfl, by decide⟩) (by rw [ea]; exact ox_ix (N := 12) (by omega) (by decide)) ?_)
    rw [ox_up_ne (by decide), h5 _ la]
    refine oT_Ret rfl rfl rfl ?_
    rw [if_pos q1]
    exact ⟨rfl, rfl⟩
theorem ot_mringAt {a : Int32} (h : oRS σ S) (hk : 2 ≤ k) (hk9 : k ≤ 9) : oT L k 90 0 [some (.ref 7), some (.int a)] [] σ (fun o σ' => if 0 ≤ a ∧ a < nI S.m then o = .inl (some (.int (nI (S.g a.toNatClampNeg)))) ∧ σ' = ox_up σ 7 0 0 else (∃ x, o = .inl (some (.int x))) ∧ σ' = ox_up σ 7 0 1) := by
  obtain ⟨k, rfl⟩ : ∃ k', k = k' + 1 := ⟨k - 1, by omega⟩
  obtain ⟨⟨t1, t2, t3, t4, t5⟩, h2, h3, h4, h5, -, -, -, h9, h10⟩ := h
  refine oT_N 4 rfl (oT_S rfl rfl rfl (by omega) (by omega) ot_isOf (fun x σ2 h => by cases h.1) (fun v σ2 hv => ?_))
  obtain ⟨hv, rfl⟩ := hv
  cases hv
  rw [h9]
  refine oT_N 1 rfl (oT_if1 (fun q => ?_) (fun q1 => ?_))
  · refine oT_N 3 rfl (oT_V rfl rfl rfl rfl (by omega) (by omega) ot_thr1 (fun x σ2 h => by cases h.1) (fun v σ2 hv => ?_))
    obtain ⟨hv, rfl⟩ := hv
    cases hv
    refine oT_N 1 rfl (oT_If (fun (q : (1 : Int32) = 0) => absurd q (by decide)) (fun _ => ?_))
    refine oT_N 2 rfl (oT_Ret rfl rfl rfl ?_)
    rw [if_neg q]
    exact ⟨⟨_, rfl⟩, rfl⟩
  · refine oT_N 2 rfl (oT_V rfl rfl rfl rfl (by omega) (by omega) ot_thr0 (fun x σ2 h => by cases h.1) (fun v σ3 hv => ?_))
    obtain ⟨hv, rfl⟩ := hv
    cases hv
    show oT L (k + 1) 90 21 [some (.ref 7), some (.int a)] [.int 0] (ox_up σ2 7 0 0) _
    refine oT_N 1 rfl (oT_If (fun _ => ?_) (fun (q : ¬ (0 : Int32) = 0) => absurd rfl q))
    obtain ⟨ea, la⟩ := ox_natlt q1.1 q1.2 (by omega)
    refine oT_N 3 rfl (oT_I (o := 66) (n := a) rfl (Or.inl ⟨rfl, by decide⟩) (by rw [ea]; exact ox_ix (N := 12) (by omega) (by decide)) ?_)
    rw [ox_up_ne (by decide), h10 _ la]
    refine oT_Ret rfl rfl rfl ?_
    rw [if_pos q1]
    exact ⟨rfl, rfl⟩
theorem ot_mring (h : oRS σ S) : oT L k 89 0 [some (.ref 7)] [] σ (fun o σ' => o = .inl (some (.int (nI S.m))) ∧ σ' = ox_up σ 7 0 0) := by
  refine oT_N 5 rfl (oT_Ret rfl rfl rfl ⟨?_, rfl⟩)
  have e : ox_up σ 7 0 (Int32.ofInt 0) 7 32 = nI S.m := by rw [ox_up_at, if_neg (by decide)]; exact h.2.2.2.2.2.2.2.2.1
  exact congrArg (fun z => (Sum.inl (some (.int z)) : ox_O)) e
theorem ot_mclear : oT L k 92 0 [some (.ref 7), none] [] σ (fun o σ' => o = .inl (some (.int (σ 7 2))) ∧ σ' = ox_up (ox_up (ox_up σ 7 0 0) 7 2 0) 7 1 0) :=
  oT_N 13 rfl (oT_Ret rfl rfl rfl ⟨rfl, rfl⟩)
theorem oT_TsD {mi pc : Nat} {ls : List (Option Value)} {r : List Value} {Post : ox_O → ox_S → Prop} {x : Int32} {dflt lo hi : Int} {offs : Array Int} {e2 : Nat × Nat × Nat} (hI : ox_I mi pc = some (.tableswitch dflt lo hi offs, e2)) (h : x.toInt < lo ∨ hi < x.toInt) (hp : 0 ≤ (pc : Int) + dflt) (K : oT L k mi ((pc : Int) + dflt).toNat ls r σ Post) : oT L k mi pc ls (.int x :: r) σ Post :=
  oT_N 1 (by simp only [ox_sN, hI, ox_s1, ox_1, if_pos h, if_pos hp]) K
/-- what 'count' answers -/
def oCq (P : oPr) (M : oMo) (T : oLs) (j : Nat) : Int32 := match j with
  | 0 => nI P.T
  | 1 => nI P.n
  | 2 => nI (ocR P P.n)
  | 3 => nI M.R
  | 4 => nI M.Q
  | 5 => nI T.m
  | 6 => nI T.N
  | _ => nI T.A
def oCt (P : oPr) (M : oMo) (T : oLs) (x : Int32) : Int32 := if x < 0 ∨ nI 8 ≤ x then -1 else oCq P M T x.toNatClampNeg
theorem oCt_j {P : oPr} {M : oMo} {T : oLs} {j : Nat} (hj : j < 8) : oCt P M T (nI j) = oCq P M T j := by
  unfold oCt
  rw [if_neg (by
    rintro (q | q)
    · exact nI_pos (by omega) q
    · exact nI_ge hj (by decide) q), nI_clamp (by omega)]
theorem ox_out8 {x : Int32} (h : x < 0 ∨ nI 8 ≤ x) : x.toInt < 0 ∨ 7 < x.toInt := by
  rcases h with h | h
  · left
    exact Int32.lt_iff_toInt_lt.mp h
  · right
    have := Int32.le_iff_toInt_le.mp h
    rw [nI_toInt (by decide)] at this
    omega
theorem ot_mcount {x : Int32} (h : oM σ P) (hm : oMm σ M) (hl : oRL σ T) (hk : 2 ≤ k) (hk9 : k ≤ 9) : oT L k 91 0 [some (.ref 7), some (.int x)] [] σ (fun o σ' => o = .inl (some (.int (oCt P M T x))) ∧ σ' = ox_up σ 7 0 0) := by
  obtain ⟨k, rfl⟩ : ∃ k', k = k' + 1 := ⟨k - 1, by omega⟩
  obtain ⟨t1, t2, t3, t4, t5, t6, -⟩ := hl
  have hR : ∀ q, q ≠ 0 → ox_up σ 7 0 (Int32.ofInt 0) 7 q = σ 7 q := fun q hq => by rw [ox_up_at, if_neg hq]
  have out : ∀ y z : Int32, y = z → (Sum.inl (some (.int y)) : ox_O) = .inl (some (.int z)) := fun y z e => by rw [e]
  rcases pk_ix x (n := 8) (by decide) with q | q | ⟨j, hj, rfl⟩
  · refine oT_N 4 rfl (oT_TsD rfl (ox_out8 (Or.inl q)) (by decide) (oT_N 1 rfl (oT_Ret rfl rfl rfl ⟨out _ _ ?_, rfl⟩)))
    unfold oCt
    rw [if_pos (Or.inl q)]
    rfl
  · refine oT_N 4 rfl (oT_TsD rfl (ox_out8 (Or.inr q)) (by decide) (oT_N 1 rfl (oT_Ret rfl rfl rfl ⟨out _ _ ?_, rfl⟩)))
    unfold oCt
    rw [if_pos (Or.inr q)]
    rfl
  · rw [oCt_j hj]
    match j, hj with
    | 0, _ => exact oT_N 5 rfl (oT_N 2 rfl (oT_Ret rfl rfl rfl ⟨out _ _ ((hR 1 (by decide)).trans h.2.1), rfl⟩))
    | 1, _ => exact oT_N 5 rfl (oT_N 2 rfl (oT_Ret rfl rfl rfl ⟨out _ _ ((hR 2 (by decide)).trans h.2.2.1), rfl⟩))
    | 2, _ =>
      refine oT_N 5 rfl (oT_N 1 rfl (oT_V rfl rfl rfl rfl (by omega) (by omega) (ot_reads (P := P) (oM_ext h (hR 1 (by decide)) (hR 2 (by decide)) (fun o q1 q2 => ox_up_ne (by omega)))) (fun x σ2 h => by cases h.1) (fun v σ2 hv => ?_)))
      obtain ⟨hv, rfl⟩ := hv
      cases hv
      exact oT_Ret rfl rfl rfl ⟨rfl, rfl⟩
    | 3, _ => exact oT_N 5 rfl (oT_N 2 rfl (oT_Ret rfl rfl rfl ⟨out _ _ ((hR 8 (by decide)).trans hm.2.1), rfl⟩))
    | 4, _ => exact oT_N 5 rfl (oT_N 2 rfl (oT_Ret rfl rfl rfl ⟨out _ _ ((hR 12 (by decide)).trans hm.2.2.1), rfl⟩))
    | 5, _ => exact oT_N 5 rfl (oT_N 2 rfl (oT_Ret rfl rfl rfl ⟨out _ _ ((hR 20 (by decide)).trans t3), rfl⟩))
    | 6, _ => exact oT_N 5 rfl (oT_N 2 rfl (oT_Ret rfl rfl rfl ⟨out _ _ ((hR 21 (by decide)).trans t4), rfl⟩))
    | 7, _ => exact oT_N 5 rfl (oT_N 2 rfl (oT_Ret rfl rfl rfl ⟨out _ _ ((hR 22 (by decide)).trans t5), rfl⟩))
    | j + 8, hj => exact absurd hj (by omega)
end OXA
