theorem ot_thr0 {L k : Nat} {σ : ox_S} : oT L k 52 0 [some (.ref 7), some (.int 0), some (.int 0)] [] σ (fun o σ' => o = .inl (some (.int 0)) ∧ σ' = ox_up σ 7 0 0) := ot_throwing
theorem ot_thr1 {L k : Nat} {s : Int32} {σ : ox_S} : oT L k 52 0 [some (.ref 7), some (.int 1), some (.int s)] [] σ (fun o σ' => o = .inl (some (.int 1)) ∧ σ' = ox_up σ 7 0 1) := ot_throwing
theorem ot_thr2 {L k : Nat} {σ : ox_S} : oT L k 52 0 [some (.ref 7), some (.int 0), some (.int 1)] [] σ (fun o σ' => o = .inl (some (.int 1)) ∧ σ' = ox_up σ 7 0 2) := ot_throwing
/-- a relation that may be made -/
def oMg (M : oMo) (h a b : Int32) : Prop := (0 ≤ h ∧ h ≤ 5) ∧ (0 ≤ a ∧ a < nI M.R) ∧ (h < 4 → 0 ≤ b ∧ b < nI M.R)
theorem oMg_nat {M : oMo} {h a b : Int32} (hM : M.ok) (g : oMg M h a b) : ∃ h' a' b', h = nI h' ∧ h' ≤ 5 ∧ a = nI a' ∧ a' < M.R ∧ b' < M.R ∧ (h' < 4 → b = nI b') ∧ (4 ≤ h' → b' = a') := by
  obtain ⟨⟨h1, h2⟩, ⟨h3, h4⟩, h5⟩ := g
  have hR := hM.2.1
  obtain ⟨a1, a2⟩ := ox_nat h1
  obtain ⟨b1, b2⟩ := ox_natlt h3 h4 (by omega)
  have hh : h.toNatClampNeg ≤ 5 := by rw [a1] at h2; exact (nI_leI (b := 5) a2 (by decide)).mp h2
  rcases Nat.lt_or_ge h.toNatClampNeg 4 with q | q
  · have hw : h < 4 := by rw [a1]; exact (nI_ltI (b := 4) a2 (by decide)).mpr q
    obtain ⟨c1, c2⟩ := h5 hw
    obtain ⟨d1, d2⟩ := ox_natlt c1 c2 (by omega)
    exact ⟨_, _, _, a1, hh, b1, b2, d2, fun _ => d1, fun q2 => by omega⟩
  · exact ⟨_, _, _, a1, hh, b1, b2, b2, fun q2 => by omega, fun _ => rfl⟩
theorem oMm_7 {σ : ox_S} {M : oMo} {x : Int32} (h : oMm σ M) : oMm (ox_up σ 7 0 x) M := oMm_ext h (by rw [ox_up_at, if_neg (by decide)]) (by rw [ox_up_at, if_neg (by decide)]) (fun o q1 q2 => ox_up_ne (by omega))
theorem oFQ_7 {σ : ox_S} {x : Int32} : oFQ σ (ox_up σ 7 0 x) := ⟨fun o ho => ox_up_ne (by omega), fun q q1 _ _ => by rw [ox_up_at, if_neg q1]⟩
set_option maxHeartbeats 1000000 in
theorem ot_mmake {L k : Nat} {σ : ox_S} {M : oMo} {h a b : Int32} (hm : oMm σ M) (hk : 2 ≤ k) (hk9 : k ≤ 9) :
    oT L k 59 0 [some (.ref 7), some (.int h), some (.int a), some (.int b), none] [] σ (fun o σ' => (oMg M h a b → M.R < 40 → ∀ h' a' b', h = nI h' → h' ≤ 5 → a = nI a' → a' < M.R → b' < M.R → (h' < 4 → b = nI b') → (4 ≤ h' → b' = a') → o = .inl (some (.int (nI M.R))) ∧ σ' 7 0 = 0 ∧ oMm σ' (oMk M h' a' b') ∧ oFQ σ σ') ∧ (oMg M h a b → M.R = 40 → (∃ x, o = .inl (some (.int x))) ∧ σ' = ox_up σ 7 0 2) ∧ (¬ oMg M h a b → (∃ x, o = .inl (some (.int x))) ∧ σ' = ox_up σ 7 0 1)) := by
  obtain ⟨k, rfl⟩ : ∃ k', k = k' + 1 := ⟨k - 1, by omega⟩
  have hR := hm.1.2.1
  have h8 := hm.2.1
  generalize hPo : (fun (o : ox_O) (σ' : ox_S) => (oMg M h a b → M.R < 40 → ∀ h' a' b', h = nI h' → h' ≤ 5 → a = nI a' → a' < M.R → b' < M.R → (h' < 4 → b = nI b') → (4 ≤ h' → b' = a') → o = .inl (some (.int (nI M.R))) ∧ σ' 7 0 = 0 ∧ oMm σ' (oMk M h' a' b') ∧ oFQ σ σ') ∧ (oMg M h a b → M.R = 40 → (∃ x, o = .inl (some (.int x))) ∧ σ' = ox_up σ 7 0 2) ∧ (¬ oMg M h a b → (∃ x, o = .inl (some (.int x))) ∧ σ' = ox_up σ 7 0 1)) = Post
  have bad : ¬ oMg M h a b → oT L (k + 1) 59 36 [some (.ref 7), some (.int h), some (.int a), some (.int b), none] [] σ Post := fun hb => by
    have two : ∀ s : Int32, oT L (k + 1) 59 60 [some (.ref 7), some (.int h), some (.int a), some (.int b), some (.int 1)] [.int s, .int 1, .ref 7] σ Post := fun s => by
      refine oT_V rfl rfl rfl rfl (by omega) (by omega) ot_thr1 (fun x σ2 h => by cases h.1) (fun v σ2 hv => ?_)
      obtain ⟨hv, rfl⟩ := hv
      cases hv
      refine oT_N 1 rfl (oT_If (fun (q : (1 : Int32) = 0) => absurd q (by decide)) (fun _ => ?_))
      refine oT_N 1 rfl (oT_Ret rfl rfl rfl ?_)
      subst hPo
      exact ⟨fun q => absurd q hb, fun q => absurd q hb, fun _ => ⟨⟨_, rfl⟩, rfl⟩⟩
    exact oT_N 9 rfl (oT_eq M.R 40 h8 rfl (by omega) (by decide) (fun _ => oT_N 2 rfl (two _)) (fun _ => oT_N 1 rfl (two _)))
  have fine : oMg M h a b → oT L (k + 1) 59 40 [some (.ref 7), some (.int h), some (.int a), some (.int b), none] [] σ Post := fun hg => by
    refine oT_N 8 rfl (oT_eq M.R 40 h8 rfl (by omega) (by decide) (fun q => ?_) (fun q => ?_))
    · refine oT_N 2 rfl (oT_V rfl rfl rfl rfl (by omega) (by omega) ot_thr2 (fun x σ2 h => by cases h.1) (fun v σ2 hv => ?_))
      obtain ⟨hv, rfl⟩ := hv
      cases hv
      refine oT_N 1 rfl (oT_If (fun (q : (1 : Int32) = 0) => absurd q (by decide)) (fun _ => ?_))
      refine oT_N 1 rfl (oT_Ret rfl rfl rfl ?_)
      subst hPo
      exact ⟨fun _ q => by omega, fun _ _ => ⟨⟨_, rfl⟩, rfl⟩, fun q => absurd hg q⟩
    · refine oT_N 1 rfl (oT_V rfl rfl rfl rfl (by omega) (by omega) ot_thr0 (fun x σ2 h => by cases h.1) (fun v σ2 hv => ?_))
      obtain ⟨hv, rfl⟩ := hv
      cases hv
      show oT L (k + 1) 59 63 [some (.ref 7), some (.int h), some (.int a), some (.int b), some (.int 0)] [.int 0] (ox_up σ 7 0 0) Post
      refine oT_N 1 rfl (oT_If (fun _ => ?_) (fun (q : ¬ (0 : Int32) = 0) => absurd rfl q))
      obtain ⟨h', a', b', e1, e2, e3, e4, e5, e6, e7⟩ := oMg_nat hm.1 hg
      have add := ot_madd (L := L) (k := k) (h := h') (a := a') (b := b') (oMm_7 (x := 0) hm) (by omega) e2 e4 e5
      have post : ∀ (o : ox_O) (σ' : ox_S), (o = .inl (some (.int (nI M.R))) ∧ oMm σ' (oMk M h' a' b') ∧ oFQ (ox_up σ 7 0 0) σ' ∧ σ' 7 0 = ox_up σ 7 0 0 7 0) → Post o σ' := fun o σ' q => by
        subst hPo
        refine ⟨fun _ _ h2 a2 b2 f1 f2 f3 f4 f5 f6 f7 => ⟨q.1, ?_, ?_, oFQ_7.tr q.2.2.1⟩, fun _ q2 => by omega, fun q2 => absurd hg q2⟩
        · rw [q.2.2.2, ox_up_at, if_pos rfl]
        · have g1 : h2 = h' := (nI_eq (by omega) (by omega)).mp (by rw [← f1, e1])
          have g2 : a2 = a' := (nI_eq (by omega) (by omega)).mp (by rw [← f3, e3])
          have g3 : b2 = b' := by
            subst g1 g2
            rcases Nat.lt_or_ge h2 4 with r | r
            · exact (nI_eq (by omega) (by omega)).mp (by rw [← f6 r, e6 r])
            · rw [f7 r, e7 r]
          rw [g1, g2, g3]
          exact q.2.1
      refine oT_N 6 rfl (oT_le 4 h' rfl e1 (by decide) (by omega) (fun q4 => ?_) (fun q4 => ?_))
      · have e8 := e7 q4
        subst e8
        rw [e1, e3]
        refine oT_N 1 rfl (oT_V rfl rfl rfl rfl (by omega) (by omega) add (fun x σ2 h => by cases h.1) (fun v σ3 hv => ?_))
        obtain ⟨hv0, hv1⟩ := id hv
        cases hv0
        exact oT_Ret rfl rfl rfl (post _ _ hv)
      · rw [e1, e3, e6 q4]
        refine oT_N 2 rfl (oT_V rfl rfl rfl rfl (by omega) (by omega) add (fun x σ2 h => by cases h.1) (fun v σ3 hv => ?_))
        obtain ⟨hv0, hv1⟩ := id hv
        cases hv0
        exact oT_Ret rfl rfl rfl (post _ _ hv)
  refine oT_N 2 rfl (oT_If (fun (q : h < 0) => bad (fun g => Int32.not_le.mpr q g.1.1)) (fun (q1 : ¬ h < 0) => ?_))
  refine oT_N 3 rfl (oT_If (fun (q : (5 : Int32) < h) => bad (fun g => Int32.not_lt.mpr g.1.2 q)) (fun (q2 : ¬ (5 : Int32) < h) => ?_))
  refine oT_N 3 rfl (oT_S rfl rfl rfl (by omega) (by omega) ot_isOf (fun x σ2 h => by cases h.1) (fun v σ2 hv => ?_))
  obtain ⟨hv, rfl⟩ := hv
  cases hv
  rw [h8]
  refine oT_N 1 rfl (oT_if1 (fun q => bad (fun g => q g.2.1)) (fun q3 => ?_))
  refine oT_N 3 rfl (oT_If (fun (q : (4 : Int32) ≤ h) => fine ⟨⟨Int32.not_lt.mp q1, Int32.not_lt.mp q2⟩, q3, fun e => absurd q (Int32.not_le.mpr e)⟩) (fun (q4 : ¬ (4 : Int32) ≤ h) => ?_))
  refine oT_N 3 rfl (oT_S rfl rfl rfl (by omega) (by omega) ot_isOf (fun x σ2 h => by cases h.1) (fun v σ3 hv => ?_))
  obtain ⟨hv, rfl⟩ := hv
  cases hv
  rw [h8]
  exact oT_N 1 rfl (oT_if1 (fun q => bad (fun g => q (g.2.2 (Int32.not_le.mp q4)))) (fun q5 => fine ⟨⟨Int32.not_lt.mp q1, Int32.not_lt.mp q2⟩, q3, fun _ => q5⟩))
theorem ot_mrule {L k : Nat} {σ : ox_S} {M : oMo} {r : Int32} (hm : oMm σ M) (hk : 2 ≤ k) (hk9 : k ≤ 9) :
    oT L k 60 0 [some (.ref 7), some (.int r)] [] σ (fun o σ' => (∀ r', r = nI r' → r' < M.R → M.Q < 8 → o = .inl (some (.int (nI (M.Q + 1)))) ∧ σ' 7 0 = 0 ∧ oMm σ' (oMr M r') ∧ oFQ σ σ') ∧ ((0 ≤ r ∧ r < nI M.R) → M.Q = 8 → (∃ x, o = .inl (some (.int x))) ∧ σ' = ox_up σ 7 0 2) ∧ (¬ (0 ≤ r ∧ r < nI M.R) → (∃ x, o = .inl (some (.int x))) ∧ σ' = ox_up σ 7 0 1)) := by
  obtain ⟨k, rfl⟩ : ∃ k', k = k' + 1 := ⟨k - 1, by omega⟩
  obtain ⟨hok, h8, h12, g3, g4⟩ := id hm
  have hR := hok.2.1
  have hQ := hok.2.2.1
  generalize hPo : (fun (o : ox_O) (σ' : ox_S) => (∀ r', r = nI r' → r' < M.R → M.Q < 8 → o = .inl (some (.int (nI (M.Q + 1)))) ∧ σ' 7 0 = 0 ∧ oMm σ' (oMr M r') ∧ oFQ σ σ') ∧ ((0 ≤ r ∧ r < nI M.R) → M.Q = 8 → (∃ x, o = .inl (some (.int x))) ∧ σ' = ox_up σ 7 0 2) ∧ (¬ (0 ≤ r ∧ r < nI M.R) → (∃ x, o = .inl (some (.int x))) ∧ σ' = ox_up σ 7 0 1)) = Post
  refine oT_N 4 rfl (oT_S rfl rfl rfl (by omega) (by omega) ot_isOf (fun x σ2 h => by cases h.1) (fun v σ2 hv => ?_))
  obtain ⟨hv, rfl⟩ := hv
  cases hv
  rw [h8]
  refine oT_N 1 rfl (oT_if1 (fun q => ?_) (fun q => ?_))
  · have two : ∀ s : Int32, oT L (k + 1) 60 31 [some (.ref 7), some (.int r)] [.int s, .int 1, .ref 7] σ2 Post := fun s => by
      refine oT_V rfl rfl rfl rfl (by omega) (by omega) ot_thr1 (fun x σ2 h => by cases h.1) (fun v σ2 hv => ?_)
      obtain ⟨hv, rfl⟩ := hv
      cases hv
      refine oT_N 1 rfl (oT_If (fun (q : (1 : Int32) = 0) => absurd q (by decide)) (fun _ => ?_))
      refine oT_N 1 rfl (oT_Ret rfl rfl rfl ?_)
      subst hPo
      exact ⟨fun r' e1 e2 => absurd ⟨by rw [e1]; exact nI_pos' (by omega), by rw [e1]; exact nI_lt e2 (by omega)⟩ q, fun e => absurd e q, fun _ => ⟨⟨_, rfl⟩, rfl⟩⟩
    exact oT_N 6 rfl (oT_eq M.Q 8 h12 rfl (by omega) (by decide) (fun _ => oT_N 2 rfl (two _)) (fun _ => oT_N 1 rfl (two _)))
  · refine oT_N 5 rfl (oT_eq M.Q 8 h12 rfl (by omega) (by decide) (fun q8 => ?_) (fun q8 => ?_))
    · refine oT_N 2 rfl (oT_V rfl rfl rfl rfl (by omega) (by omega) ot_thr2 (fun x σ2 h => by cases h.1) (fun v σ2 hv => ?_))
      obtain ⟨hv, rfl⟩ := hv
      cases hv
      refine oT_N 1 rfl (oT_If (fun (q : (1 : Int32) = 0) => absurd q (by decide)) (fun _ => ?_))
      refine oT_N 1 rfl (oT_Ret rfl rfl rfl ?_)
      subst hPo
      exact ⟨fun _ _ _ q => by omega, fun _ _ => ⟨⟨_, rfl⟩, rfl⟩, fun e => absurd q e⟩
    · refine oT_N 1 rfl (oT_V rfl rfl rfl rfl (by omega) (by omega) ot_thr0 (fun x σ2 h => by cases h.1) (fun v σ3 hv => ?_))
      obtain ⟨hv, rfl⟩ := hv
      cases hv
      show oT L (k + 1) 60 34 [some (.ref 7), some (.int r)] [.int 0] (ox_up σ2 7 0 0) Post
      refine oT_N 1 rfl (oT_If (fun _ => ?_) (fun (q : ¬ (0 : Int32) = 0) => absurd rfl q))
      have e12 : ox_up σ2 7 0 0 7 12 = nI M.Q := h12
      refine oT_N 5 rfl (oT_Is (o := 51) (n := ox_up σ2 7 0 0 7 12) (x := r) rfl ⟨rfl, by decide⟩ (by rw [e12]; exact ox_ix (N := 8) (by omega) (by decide)) ?_)
      rw [e12, nI_clamp (by omega)]
      refine oT_N 8 rfl (oT_Ret rfl rfl rfl ?_)
      have e13 : ox_up (ox_up (ox_up σ2 7 0 0) 51 M.Q r) 7 12 (ox_up (ox_up σ2 7 0 0) 51 M.Q r 7 12 + Int32.ofInt 1) 7 12 = nI (M.Q + 1) := by
        rw [ox_up_at, if_pos rfl, ox_up_ne (by decide), e12, ox_inc]
      subst hPo
      refine ⟨fun r' e1 e2 _ => ⟨congrArg (fun z => (Sum.inl (some (.int z)) : ox_O)) e13, rfl, ⟨oMr_ok hok (by omega) e2, h8, e13, g3, fun i hi => ?_⟩, fun o ho => ?_, fun q q1 q2 q3 => ?_⟩, fun _ e => absurd e q8, fun e => absurd q e⟩
      · have hi' : i < M.Q + 1 := hi
        show upd (σ2 51) M.Q r i = nI (if i = M.Q then r' else M.rl i)
        unfold upd
        by_cases q : i = M.Q
        · rw [if_pos q, if_pos q, e1]
        · rw [if_neg q, if_neg q]
          exact g4 i (by omega)
      · rw [ox_up_ne (by omega), ox_up_ne (by omega), ox_up_ne (by omega)]
      · rw [ox_up_at, if_neg q3, ox_up_ne (by decide), ox_up_at, if_neg q1]
/-- the given models -/
def oGn (M : oMo) (k : Nat) : oMo := match k with
  | 0 => oM0 M
  | 1 => oMd3 (oM0 M) 5 1
  | 2 => oMd3 (oM0 M) 0 1
  | 3 => oMd3 (oMk (oMk (oMd3 (oM0 M) 5 1) 2 0 10) 0 15 7) 16 4
  | 4 => oMd3 (oMk (oMk (oMk (oMd3 (oM0 M) 5 1) 2 0 10) 2 15 11) 0 16 7) 17 4
  | _ => oMd3 (oMk (oMd3 (oM0 M) 5 1) 0 6 7) 15 4
set_option maxHeartbeats 1000000 in
theorem ot_mgiven {L k : Nat} {σ : ox_S} {M : oMo} {r : Int32} (hm : oMm σ M) (hk : 3 ≤ k) (hk9 : k ≤ 9) :
    oT L k 62 0 [some (.ref 7), some (.int r), none] [] σ (fun o σ' => (∀ r', r = nI r' → r' ≤ 5 → o = .inl (some (.int (nI (oGn M r').R))) ∧ σ' 7 0 = 0 ∧ oMm σ' (oGn M r') ∧ oFQ σ σ') ∧ (¬ (0 ≤ r ∧ r ≤ 5) → (∃ x, o = .inl (some (.int x))) ∧ σ' = ox_up σ 7 0 1)) := by
  obtain ⟨k, rfl⟩ : ∃ k', k = k' + 1 := ⟨k - 1, by omega⟩
  generalize hPo : (fun (o : ox_O) (σ' : ox_S) => (∀ r', r = nI r' → r' ≤ 5 → o = .inl (some (.int (nI (oGn M r').R))) ∧ σ' 7 0 = 0 ∧ oMm σ' (oGn M r') ∧ oFQ σ σ') ∧ (¬ (0 ≤ r ∧ r ≤ 5) → (∃ x, o = .inl (some (.int x))) ∧ σ' = ox_up σ 7 0 1)) = Post
  have bad : ¬ (0 ≤ r ∧ r ≤ 5) → oT L (k + 1) 62 10 [some (.ref 7), some (.int r), none] [.ref 7] σ Post := fun hb => by
    refine oT_N 3 rfl (oT_V rfl rfl rfl rfl (by omega) (by omega) ot_thr1 (fun x σ2 h => by cases h.1) (fun v σ2 hv => ?_))
    obtain ⟨hv, rfl⟩ := hv
    cases hv
    refine oT_N 1 rfl (oT_If (fun (q : (1 : Int32) = 0) => absurd q (by decide)) (fun _ => ?_))
    refine oT_N 1 rfl (oT_Ret rfl rfl rfl ?_)
    subst hPo
    exact ⟨fun r' e1 e2 => absurd ⟨by rw [e1]; exact nI_pos' (by omega), by rw [e1]; exact nI_le (b := 5) e2 (by decide)⟩ hb, fun _ => ⟨⟨_, rfl⟩, rfl⟩⟩
  refine oT_N 3 rfl (oT_If (fun (q : r < 0) => bad (fun g => Int32.not_le.mpr q g.1)) (fun (q1 : ¬ r < 0) => ?_))
  refine oT_N 3 rfl (oT_If (fun (q2 : r ≤ 5) => ?_) (fun (q : ¬ r ≤ 5) => bad (fun g => q g.2)))
  obtain ⟨e0, e1⟩ := ox_nat (Int32.not_lt.mp q1)
  generalize r.toNatClampNeg = g at e0 e1
  subst e0
  have hg5 : g ≤ 5 := (nI_leI (b := 5) e1 (by decide)).mp q2
  have hP : ∀ (τ : ox_S) (M' : oMo) (x : Int32), oMm τ M' → M' = oGn M g → oFQ σ τ → τ 7 0 = 0 → x = τ 7 8 → Post (.inl (some (.int x))) τ := fun τ M' x a1 a2 a3 a4 a5 => by
    subst hPo
    refine ⟨fun r' e2 e3 => ?_, fun q => absurd ⟨Int32.not_lt.mp q1, q2⟩ q⟩
    have e4 : r' = g := ((nI_eq (by omega) (by omega)).mp e2).symm
    subst e4 a2
    exact ⟨by rw [a5, a1.2.1], a4, a1, a3⟩
  refine oT_N 2 rfl (oT_V rfl rfl rfl rfl (by omega) (by omega) ot_thr0 (fun x σ2 h => by cases h.1) (fun v σ2 hv => ?_))
  obtain ⟨hv, rfl⟩ := hv
  cases hv
  show oT L (k + 1) 62 19 [some (.ref 7), some (.int (nI g)), none] [.int 0] (ox_up σ 7 0 0) Post
  refine oT_N 1 rfl (oT_If (fun _ => ?_) (fun (q : ¬ (0 : Int32) = 0) => absurd rfl q))
  -- the last rule
  have c105 : ∀ (M2 : oMo) (τ : ox_S) (y : Nat), oMm τ M2 → M2.R ≤ 17 → M2.Q = 1 → y < M2.R → oFQ σ τ → τ 7 0 = 0 → oMd3 (oMk M2 0 y 7) M2.R 4 = oGn M g → oT L (k + 1) 62 105 [some (.ref 7), some (.int (nI g)), some (.int (nI y))] [] τ Post := fun M2 τ y a1 a2 a3 a4 a5 a6 a7 => by
    have h12 := a1.1.1
    refine oT_N 5 rfl (oT_V rfl rfl rfl rfl (by omega) (by omega) (ot_madd (h := 0) (a := y) (b := 7) a1 (by omega) (by omega) a4 (by omega)) (fun x σ2 h => by cases h.1) (fun v σ1 hv => ?_))
    obtain ⟨hv, m1, f1, z1⟩ := hv
    cases hv
    refine oT_N 1 rfl (oT_V rfl rfl rfl rfl (by omega) (by omega) (ot_mordered (r := M2.R) (f := 4) m1 (by show M2.R + 1 < 38; omega) (by show M2.Q < 8; omega) (by show M2.R < M2.R + 1; omega) (by show 4 < M2.R + 1; omega) (by omega) (by omega)) (fun x σ2 h => by cases h.1) (fun v σ3 hv => ?_))
    obtain ⟨hv, m2, f2, z2⟩ := hv
    cases hv
    exact oT_N 2 rfl (oT_Ret rfl rfl rfl (hP σ3 _ _ m2 a7 ((a5.tr f1).tr f2) (by rw [z2, z1]; exact a6) rfl))
  -- from the end of the first rule
  have c62 : ∀ (M1 : oMo) (τ : ox_S), oMm τ M1 → oFQ σ τ → τ 7 0 = 0 → (g < 3 → M1 = oGn M g) → (3 ≤ g → M1 = oMd3 (oM0 M) 5 1) → oT L (k + 1) 62 62 [some (.ref 7), some (.int (nI g)), none] [] τ Post := fun M1 τ a1 a2 a3 a4 a5 => by
    refine oT_N 3 rfl (oT_le 3 g rfl rfl (by decide) (by omega) (fun q3 => ?_) (fun q3 => ?_))
    · have b0 := a5 q3
      subst b0
      refine oT_N 3 rfl (oT_eq g 5 rfl rfl (by omega) (by decide) (fun q5 => ?_) (fun q5 => ?_))
      · subst q5
        refine oT_N 3 rfl ?_
        refine oT_N 3 rfl (oT_eq 5 4 rfl rfl (by decide) (by decide) (fun q => by omega) (fun _ => ?_))
        exact c105 _ τ 6 a1 (by show 15 ≤ 17; omega) rfl (by show 6 < 15; omega) a2 a3 rfl
      · refine oT_N 4 rfl (oT_V rfl rfl rfl rfl (by omega) (by omega) (ot_madd (h := 2) (a := 0) (b := 10) a1 (by show 15 < 40; omega) (by omega) (by show 0 < 15; omega) (by show 10 < 15; omega)) (fun x σ2 h => by cases h.1) (fun v σ1 hv => ?_))
        obtain ⟨hv, m1, f1, z1⟩ := hv
        cases hv
        show oT L (k + 1) 62 90 [some (.ref 7), some (.int (nI g)), none] [.int (nI 15)] σ1 Post
        refine oT_N 1 rfl ?_
        refine oT_N 3 rfl (oT_eq g 4 rfl rfl (by omega) (by decide) (fun q4 => ?_) (fun q4 => ?_))
        · subst q4
          refine oT_N 4 rfl (oT_V rfl rfl rfl rfl (by omega) (by omega) (ot_madd (h := 2) (a := 15) (b := 11) m1 (by show 16 < 40; omega) (by omega) (by show 15 < 16; omega) (by show 11 < 16; omega)) (fun x σ2 h => by cases h.1) (fun v σ2 hv => ?_))
          obtain ⟨hv, m2, f2, z2⟩ := hv
          cases hv
          refine oT_N 1 rfl ?_
          exact c105 _ σ2 16 m2 (by show 17 ≤ 17; omega) rfl (by show 16 < 17; omega) ((a2.tr f1).tr f2) (by rw [z2, z1]; exact a3) rfl
        · obtain rfl : g = 3 := by omega
          exact c105 _ σ1 15 m1 (by show 16 ≤ 17; omega) rfl (by show 15 < 16; omega) (a2.tr f1) (by rw [z1]; exact a3) rfl
    · exact oT_N 2 rfl (oT_Ret rfl rfl rfl (hP τ _ _ a1 (a4 q3) a2 a3 rfl))
  have m0 : oMm (ox_up (ox_up (ox_up σ 7 0 0) 7 8 (Int8.ofInt 12).toInt32) 7 12 (Int32.ofInt 0)) (oM0 M) := ⟨oM0_ok, rfl, rfl, fun r q1 q2 => absurd (show r < 12 from q2) (by omega), fun i hi => absurd (show i < 0 from hi) (by omega)⟩
  have f0 : oFQ σ (ox_up (ox_up (ox_up σ 7 0 0) 7 8 (Int8.ofInt 12).toInt32) 7 12 (Int32.ofInt 0)) := ⟨fun o ho => by rw [ox_up_ne (by omega), ox_up_ne (by omega), ox_up_ne (by omega)], fun q q1 q2 q3 => by rw [ox_up_at, if_neg q3, ox_up_at, if_neg q2, ox_up_at, if_neg q1]⟩
  have z0 : ox_up (ox_up (ox_up σ 7 0 0) 7 8 (Int8.ofInt 12).toInt32) 7 12 (Int32.ofInt 0) 7 0 = 0 := by rw [ox_up_at, if_neg (by decide), ox_up_at, if_neg (by decide), ox_up_at, if_pos rfl]
  refine oT_N 9 rfl (oT_eq g 2 rfl rfl (by omega) (by decide) (fun q => ?_) (fun q => ?_))
  · subst q
    refine oT_N 3 rfl (oT_V rfl rfl rfl rfl (by omega) (by omega) (ot_mordered (r := 0) (f := 1) m0 (by show 12 < 38; omega) (by show 0 < 8; omega) (by show 0 < 12; omega) (by show 1 < 12; omega) (by omega) (by omega)) (fun x σ2 h => by cases h.1) (fun v σ1 hv => ?_))
    obtain ⟨hv, m1, f1, z1⟩ := hv
    cases hv
    show oT L (k + 1) 62 46 [some (.ref 7), some (.int (nI 2)), none] [] σ1 Post
    refine oT_N 3 rfl (oT_eq 2 1 rfl rfl (by decide) (by decide) (fun q => by omega) (fun _ => ?_))
    refine oT_N 3 rfl (oT_le 2 2 rfl rfl (by decide) (by decide) (fun _ => ?_) (fun q => by omega))
    exact c62 _ σ1 m1 (f0.tr f1) (by rw [z1]; exact z0) (fun _ => rfl) (fun q => by omega)
  · have c56 : g ≠ 0 → oT L (k + 1) 62 56 [some (.ref 7), some (.int (nI g)), none] [] (ox_up (ox_up (ox_up σ 7 0 0) 7 8 (Int8.ofInt 12).toInt32) 7 12 (Int32.ofInt 0)) Post := fun hg0 => by
      refine oT_N 3 rfl (oT_V rfl rfl rfl rfl (by omega) (by omega) (ot_mordered (r := 5) (f := 1) m0 (by show 12 < 38; omega) (by show 0 < 8; omega) (by show 5 < 12; omega) (by show 1 < 12; omega) (by omega) (by omega)) (fun x σ2 h => by cases h.1) (fun v σ1 hv => ?_))
      obtain ⟨hv, m1, f1, z1⟩ := hv
      cases hv
      exact c62 _ σ1 m1 (f0.tr f1) (by rw [z1]; exact z0) (fun q3 => by
        obtain rfl : g = 1 := by omega
        rfl) (fun _ => rfl)
    refine oT_N 3 rfl (oT_eq g 1 rfl rfl (by omega) (by decide) (fun q => c56 (by omega)) (fun q6 => ?_))
    refine oT_N 3 rfl (oT_le g 2 rfl rfl (by omega) (by decide) (fun q7 => ?_) (fun q7 => c56 (by omega)))
    obtain rfl : g = 0 := by omega
    exact c62 _ _ m0 f0 z0 (fun _ => rfl) (fun q => by omega)
