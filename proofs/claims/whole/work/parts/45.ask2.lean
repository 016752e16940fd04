section OXB
variable {L k : Nat} {σ : ox_S} {P : oPr} {M : oMo} {T : oLs} {S : oSe}
theorem ot_morder {a b : Int32} (h : oRS σ S) (hk : 2 ≤ k) (hk9 : k ≤ 9) : oT L k 87 0 [some (.ref 7), some (.int a), some (.int b)] [] σ (fun o σ' => if (0 ≤ a ∧ a < nI 4) ∧ (0 ≤ b ∧ b < nI (S.W a.toNatClampNeg)) then o = .inl (some (.int (nI (S.od a.toNatClampNeg b.toNatClampNeg)))) ∧ σ' = ox_up σ 7 0 0 else (∃ x, o = .inl (some (.int x))) ∧ σ' = ox_up σ 7 0 1) := by
  obtain ⟨k, rfl⟩ : ∃ k', k = k' + 1 := ⟨k - 1, by omega⟩
  obtain ⟨⟨t1, t2, t3, t4, t5⟩, h2, h3, h4, h5, h6, h7, h8, h9, h10⟩ := h
  generalize hPo : (fun (o : ox_O) (σ' : ox_S) => if (0 ≤ a ∧ a < nI 4) ∧ (0 ≤ b ∧ b < nI (S.W a.toNatClampNeg)) then o = .inl (some (.int (nI (S.od a.toNatClampNeg b.toNatClampNeg)))) ∧ σ' = ox_up σ 7 0 0 else (∃ x, o = .inl (some (.int x))) ∧ σ' = ox_up σ 7 0 1) = Post
  have bad : ¬ ((0 ≤ a ∧ a < nI 4) ∧ (0 ≤ b ∧ b < nI (S.W a.toNatClampNeg))) → oT L (k + 1) 87 34 [some (.ref 7), some (.int a), some (.int b)] [.ref 7] σ Post := fun hb => by
    refine oT_N 3 rfl (oT_V rfl rfl rfl rfl (by omega) (by omega) ot_thr1 (fun x σ2 h => by cases h.1) (fun v σ2 hv => ?_))
    obtain ⟨hv, rfl⟩ := hv
    cases hv
    refine oT_N 1 rfl (oT_If (fun (q : (1 : Int32) = 0) => absurd q (by decide)) (fun _ => ?_))
    refine oT_N 1 rfl (oT_Ret rfl rfl rfl ?_)
    subst hPo
    try dsimp only
    rw [if_neg hb]
    exact ⟨⟨_, rfl⟩, rfl⟩
  refine oT_N 3 rfl (oT_S rfl rfl rfl (by omega) (by omega) ot_isOf (fun x σ2 h => by cases h.1) (fun v σ2 hv => ?_))
  obtain ⟨hv, rfl⟩ := hv
  cases hv
  refine oT_N 1 rfl (oT_if1 (fun q => bad (fun g => q g.1)) (fun q1 => ?_))
  refine oT_N 3 rfl (oT_S rfl rfl rfl (by omega) (by omega) ot_isOf (fun x σ2 h => by cases h.1) (fun v σ3 hv => ?_))
  obtain ⟨hv, rfl⟩ := hv
  cases hv
  refine oT_N 1 rfl (oT_if1 (fun q => absurd q1 q) (fun _ => ?_))
  obtain ⟨ea, (la : a.toNatClampNeg < 4)⟩ := ox_natlt q1.1 q1.2 (by decide)
  have hw := t4 _ la
  refine oT_N 3 rfl (oT_I (o := 65) (n := a) rfl (Or.inl ⟨rfl, by decide⟩) (by rw [ea]; exact ox_ix (N := 4) (by omega) (by decide)) ?_)
  rw [h6 _ la]
  refine oT_N 1 rfl (oT_S rfl rfl rfl (by omega) (by omega) ot_isOf (fun x σ2 h => by cases h.1) (fun v σ2 hv => ?_))
  obtain ⟨hv, rfl⟩ := hv
  cases hv
  refine oT_N 1 rfl (oT_if1 (fun q => bad (fun g => q g.2)) (fun q2 => ?_))
  refine oT_N 2 rfl (oT_V rfl rfl rfl rfl (by omega) (by omega) ot_thr0 (fun x σ2 h => by cases h.1) (fun v σ3 hv => ?_))
  obtain ⟨hv, rfl⟩ := hv
  cases hv
  show oT L (k + 1) 87 43 [some (.ref 7), some (.int a), some (.int b)] [.int 0] (ox_up σ2 7 0 0) Post
  refine oT_N 1 rfl (oT_If (fun _ => ?_) (fun (q : ¬ (0 : Int32) = 0) => absurd rfl q))
  obtain ⟨eb, lb⟩ := ox_natlt q2.1 q2.2 (by omega)
  have hix : (Int8.ofInt 12).toInt32 * a + b = nI (12 * a.toNatClampNeg + b.toNatClampNeg) := by
    have := ox_i2 a.toNatClampNeg b.toNatClampNeg
    rw [← ea, ← eb] at this
    exact this
  refine oT_N 7 rfl (oT_I (o := 64) (n := (Int8.ofInt 12).toInt32 * a + b) rfl (Or.inl ⟨rfl, by decide⟩) (by rw [hix]; exact ox_ix (N := 48) (by omega) (by decide)) ?_)
  rw [hix, nI_clamp (by omega), ox_up_ne (by decide), h7 _ _ la lb]
  refine oT_Ret rfl rfl rfl ?_
  subst hPo
  try dsimp only
  rw [if_pos ⟨q1, q2⟩]
  exact ⟨rfl, rfl⟩
theorem ot_mrelated {a b c : Int32} (h : oRS σ S) (hk : 2 ≤ k) (hk9 : k ≤ 9) : oT L k 88 0 [some (.ref 7), some (.int a), some (.int b), some (.int c)] [] σ (fun o σ' => if (0 ≤ a ∧ a < nI S.N) ∧ (0 ≤ b ∧ b < nI S.E) ∧ (0 ≤ c ∧ c < nI S.E) then o = .inl (some (.int (if S.v a.toNatClampNeg b.toNatClampNeg c.toNatClampNeg then 1 else 0))) ∧ σ' = ox_up σ 7 0 0 else (∃ x, o = .inl (some (.int x))) ∧ σ' = ox_up σ 7 0 1) := by
  obtain ⟨k, rfl⟩ : ∃ k', k = k' + 1 := ⟨k - 1, by omega⟩
  obtain ⟨⟨t1, t2, t3, t4, t5⟩, h2, h3, h4, h5, h6, h7, h8, h9, h10⟩ := h
  generalize hPo : (fun (o : ox_O) (σ' : ox_S) => if (0 ≤ a ∧ a < nI S.N) ∧ (0 ≤ b ∧ b < nI S.E) ∧ (0 ≤ c ∧ c < nI S.E) then o = .inl (some (.int (if S.v a.toNatClampNeg b.toNatClampNeg c.toNatClampNeg then 1 else 0))) ∧ σ' = ox_up σ 7 0 0 else (∃ x, o = .inl (some (.int x))) ∧ σ' = ox_up σ 7 0 1) = Post
  have bad : ¬ ((0 ≤ a ∧ a < nI S.N) ∧ (0 ≤ b ∧ b < nI S.E) ∧ (0 ≤ c ∧ c < nI S.E)) → oT L (k + 1) 88 34 [some (.ref 7), some (.int a), some (.int b), some (.int c)] [.ref 7] σ Post := fun hb => by
    refine oT_N 3 rfl (oT_V rfl rfl rfl rfl (by omega) (by omega) ot_thr1 (fun x σ2 h => by cases h.1) (fun v σ2 hv => ?_))
    obtain ⟨hv, rfl⟩ := hv
    cases hv
    refine oT_N 1 rfl (oT_If (fun (q : (1 : Int32) = 0) => absurd q (by decide)) (fun _ => ?_))
    refine oT_N 1 rfl (oT_Ret rfl rfl rfl ?_)
    subst hPo
    try dsimp only
    rw [if_neg hb]
    exact ⟨⟨_, rfl⟩, rfl⟩
  refine oT_N 4 rfl (oT_S rfl rfl rfl (by omega) (by omega) ot_isOf (fun x σ2 h => by cases h.1) (fun v σ2 hv => ?_))
  obtain ⟨hv, rfl⟩ := hv
  cases hv
  rw [h4]
  refine oT_N 1 rfl (oT_if1 (fun q => bad (fun g => q g.1)) (fun q1 => ?_))
  refine oT_N 3 rfl (oT_S rfl rfl rfl (by omega) (by omega) ot_isOf (fun x σ2 h => by cases h.1) (fun v σ3 hv => ?_))
  obtain ⟨hv, rfl⟩ := hv
  cases hv
  rw [h2]
  refine oT_N 1 rfl (oT_if1 (fun q => bad (fun g => q g.2.1)) (fun q2 => ?_))
  refine oT_N 3 rfl (oT_S rfl rfl rfl (by omega) (by omega) ot_isOf (fun x σ2 h => by cases h.1) (fun v σ2 hv => ?_))
  obtain ⟨hv, rfl⟩ := hv
  cases hv
  rw [h2]
  refine oT_N 1 rfl (oT_if1 (fun q => bad (fun g => q g.2.2)) (fun q3 => ?_))
  refine oT_N 2 rfl (oT_V rfl rfl rfl rfl (by omega) (by omega) ot_thr0 (fun x σ2 h => by cases h.1) (fun v σ3 hv => ?_))
  obtain ⟨hv, rfl⟩ := hv
  cases hv
  show oT L (k + 1) 88 43 [some (.ref 7), some (.int a), some (.int b), some (.int c)] [.int 0] (ox_up σ2 7 0 0) Post
  refine oT_N 1 rfl (oT_If (fun _ => ?_) (fun (q : ¬ (0 : Int32) = 0) => absurd rfl q))
  obtain ⟨ea, la⟩ := ox_natlt q1.1 q1.2 (by omega)
  obtain ⟨eb, lb⟩ := ox_natlt q2.1 q2.2 (by omega)
  obtain ⟨ec, lc⟩ := ox_natlt q3.1 q3.2 (by omega)
  have hix : (Int16.ofInt 144).toInt32 * a + (Int8.ofInt 12).toInt32 * b + c = nI (144 * a.toNatClampNeg + 12 * b.toNatClampNeg + c.toNatClampNeg) := by
    have := ox_i3 a.toNatClampNeg b.toNatClampNeg c.toNatClampNeg
    rw [← ea, ← eb, ← ec] at this
    exact this
  refine oT_N 11 rfl (oT_Z (o := 67) (n := (Int16.ofInt 144).toInt32 * a + (Int8.ofInt 12).toInt32 * b + c) rfl ⟨rfl, by decide⟩ (by rw [hix]; exact ox_ix (N := 5760) (by omega) (by decide)) ?_)
  rw [hix, nI_clamp (by omega), ox_up_ne (by decide), h8 _ _ _ la lb lc]
  refine oT_Ret rfl rfl (ox_b01 _) ?_
  subst hPo
  try dsimp only
  rw [if_pos ⟨q1, q2, q3⟩]
  exact ⟨rfl, rfl⟩
/-- a program with one thread more -/
def oTh (P : oPr) : oPr := (P.T + 1, P.n, P.th, P.kd, P.pl, P.vl, P.dp)
theorem ot_mthread' (h : oM σ P) (hk : 2 ≤ k) (hk9 : k ≤ 9) : oT L k 53 0 [some (.ref 7)] [] σ (fun o σ' => (P.T < 4 → o = .inl (some (.int (nI P.T))) ∧ σ' 7 0 = 0 ∧ oM σ' (oTh P) ∧ oFP σ σ') ∧ (P.T = 4 → (∃ x, o = .inl (some (.int x))) ∧ σ' = ox_up σ 7 0 1)) := by
  obtain ⟨⟨hT, hn, hok⟩, h1, h2, h3⟩ := id h
  refine (ot_mthread hk hk9).mono (fun o σ' q => ?_)
  rw [h1] at q
  by_cases e : P.T = 4
  · rw [e, if_pos (show nI 4 = 4 from rfl)] at q
    exact ⟨fun q2 => by omega, fun _ => q⟩
  · rw [if_neg (show ¬ nI P.T = 4 from fun q2 => e ((nI_eq (b := 4) (by omega) (by decide)).mp q2))] at q
    obtain ⟨q1, rfl⟩ := q
    refine ⟨fun _ => ⟨?_, ?_, ⟨⟨by show P.T + 1 ≤ 4; omega, hn, fun e he => ⟨by have := (hok e he).1; show P.th e < P.T + 1; omega, (hok e he).2⟩⟩, ?_, ?_, fun e he => ?_⟩, fun o ho => ?_, fun q hq => ?_⟩, fun q2 => absurd q2 e⟩
    · rw [q1]
      have : nI P.T + 1 - 1 = nI P.T := by rw [nI_1]; exact ox_sb1 _
      rw [this]
    · rw [ox_up_at, if_neg (by decide), ox_up_at, if_pos rfl]
    · rw [ox_up_at, if_pos rfl, nI_1]
      rfl
    · rw [ox_up_at, if_neg (by decide), ox_up_at, if_neg (by decide)]
      exact h2
    · rw [ox_up_ne (by decide), ox_up_ne (by decide), ox_up_ne (by decide), ox_up_ne (by decide), ox_up_ne (by decide), ox_up_ne (by decide), ox_up_ne (by decide), ox_up_ne (by decide), ox_up_ne (by decide), ox_up_ne (by decide)]
      exact h3 e he
    · rw [ox_up_ne (by omega), ox_up_ne (by omega)]
    · rw [ox_up_at, if_neg (by omega), ox_up_at, if_neg (by omega)]
end OXB
