theorem ox_nat {x : Int32} (h : 0 ≤ x) : x = nI x.toNatClampNeg ∧ x.toNatClampNeg < 2 ^ 31 := by
  obtain ⟨j, h1, rfl⟩ := nI_of (Int32.not_lt.mpr h)
  rw [nI_clamp h1]
  exact ⟨rfl, h1⟩
theorem ox_natlt {x : Int32} {n : Nat} (h : 0 ≤ x) (h2 : x < nI n) (hn : n < 2 ^ 31) : x = nI x.toNatClampNeg ∧ x.toNatClampNeg < n := by
  obtain ⟨h3, h4⟩ := ox_nat h
  refine ⟨h3, ?_⟩
  rw [h3] at h2
  exact (nI_ltI h4 hn).mp h2
/-- a program with one event more -/
def oEv (P : oPr) (t w a : Nat) (v : Int32) : oPr := (P.T, P.n + 1, fun e => if e = P.n then t else P.th e, fun e => if e = P.n then w else P.kd e, fun e => if e = P.n then a else P.pl e, fun e => if e = P.n then v else P.vl e, fun e b => if e = P.n ∨ b = P.n then false else P.dp e b)
/-- an event that may come -/
def oEg (P : oPr) (t w a : Int32) : Prop := (0 ≤ t ∧ t < nI P.T) ∧ (0 ≤ w ∧ w ≤ 2) ∧ (w < 2 → 0 ≤ a ∧ a < 4)
theorem oEg_nat {P : oPr} {t w a : Int32} (hP : P.ok) (h : oEg P t w a) : ∃ t' w' a', t = nI t' ∧ t' < P.T ∧ w = nI w' ∧ w' ≤ 2 ∧ (w' < 2 → a = nI a' ∧ a' < 4) := by
  obtain ⟨⟨h1, h2⟩, ⟨h3, h4⟩, h5⟩ := h
  obtain ⟨a1, a2⟩ := ox_natlt h1 h2 (by have := hP.1; omega)
  obtain ⟨b1, b2⟩ := ox_nat h3
  refine ⟨t.toNatClampNeg, w.toNatClampNeg, a.toNatClampNeg, a1, a2, b1, ?_, fun q => ?_⟩
  · rw [b1] at h4
    exact (nI_leI (b := 2) b2 (by decide)).mp h4
  · have hw : w < 2 := by rw [b1]; exact (nI_ltI (b := 2) b2 (by decide)).mpr q
    obtain ⟨c1, c2⟩ := h5 hw
    exact ox_natlt (n := 4) c1 c2 (by decide)
theorem oEv_ok {P : oPr} {t w a : Nat} {v : Int32} (hP : P.ok) (hn : P.n < 12) (ht : t < P.T) (hw : w ≤ 2) (ha : w < 2 → a < 4) : (oEv P t w a v).ok := by
  refine ⟨hP.1, by show P.n + 1 ≤ 12; omega, fun e he => ?_⟩
  have he' : e < P.n + 1 := he
  show (if e = P.n then t else P.th e) < P.T ∧ (if e = P.n then w else P.kd e) ≤ 2 ∧ ((if e = P.n then w else P.kd e) < 2 → (if e = P.n then a else P.pl e) < 4)
  by_cases q : e = P.n
  · rw [if_pos q, if_pos q, if_pos q]
    exact ⟨ht, hw, ha⟩
  · rw [if_neg q, if_neg q, if_neg q]
    exact hP.2.2 e (by omega)
/-- the reference changes no other object -/
def oFR (σ σ' : ox_S) : Prop := ∀ o, o < 7 ∨ (7 < o ∧ o < 43) ∨ 67 < o → σ' o = σ o
/-- .. and only what holds the program -/
def oFP (σ σ' : ox_S) : Prop := (∀ o, o < 7 ∨ (7 < o ∧ o < 43) ∨ 47 < o → σ' o = σ o) ∧ ∀ q, 2 < q → σ' 7 q = σ 7 q
set_option maxHeartbeats 1000000 in
theorem ot_mevent {L k : Nat} {σ : ox_S} {P : oPr} {t w a v : Int32} (h : oM σ P) (hk : 2 ≤ k) (hk9 : k ≤ 9) :
    oT L k 54 0 [some (.ref 7), some (.int t), some (.int w), some (.int a), some (.int v), none, none] [] σ (fun o σ' => (oEg P t w a → P.n < 12 → ∀ t' w' a', t = nI t' → t' < P.T → w = nI w' → w' ≤ 2 → (w' < 2 → a = nI a' ∧ a' < 4) → o = .inl (some (.int (nI P.n))) ∧ σ' 7 0 = 0 ∧ oM σ' (oEv P t' w' a' v) ∧ oFP σ σ') ∧ (oEg P t w a → P.n = 12 → (∃ x, o = .inl (some (.int x))) ∧ σ' = ox_up σ 7 0 2) ∧ (¬ oEg P t w a → (∃ x, o = .inl (some (.int x))) ∧ σ' = ox_up σ 7 0 1)) := by
  obtain ⟨k, rfl⟩ : ∃ k', k = k' + 1 := ⟨k - 1, by omega⟩
  obtain ⟨⟨hT, hn, hok⟩, h1, h2, h3⟩ := id h
  generalize hPo : (fun (o : ox_O) (σ' : ox_S) => (oEg P t w a → P.n < 12 → ∀ t' w' a', t = nI t' → t' < P.T → w = nI w' → w' ≤ 2 → (w' < 2 → a = nI a' ∧ a' < 4) → o = .inl (some (.int (nI P.n))) ∧ σ' 7 0 = 0 ∧ oM σ' (oEv P t' w' a' v) ∧ oFP σ σ') ∧ (oEg P t w a → P.n = 12 → (∃ x, o = .inl (some (.int x))) ∧ σ' = ox_up σ 7 0 2) ∧ (¬ oEg P t w a → (∃ x, o = .inl (some (.int x))) ∧ σ' = ox_up σ 7 0 1)) = Post
  -- a good one
  have good : oEg P t w a → P.n < 12 → oT L (k + 1) 54 67 [some (.ref 7), some (.int t), some (.int w), some (.int a), some (.int v), some (.int 0), none] [] (ox_up σ 7 0 0) Post := fun hg hn12 => by
    have n12 : ¬ (nI P.n < 0 ∨ 12 ≤ (nI P.n).toNatClampNeg) := ox_ix (by omega) (by decide)
    have hc : (nI P.n).toNatClampNeg = P.n := nI_clamp (by omega)
    -- the end
    have fin : ∀ (d i : Nat) (τ : ox_S), i + d = 12 → (∀ o, o < 7 ∨ (7 < o ∧ o < 43) ∨ 47 < o → τ o = σ o) → (∀ q, q ≠ 0 → τ 7 q = σ 7 q) → τ 7 0 = 0 → (∀ e, e ≠ P.n → τ 43 e = σ 43 e ∧ τ 44 e = σ 44 e ∧ τ 45 e = σ 45 e ∧ τ 46 e = σ 46 e) → τ 43 P.n = t → τ 44 P.n = w → τ 45 P.n = (if w < 2 then a else -1) → τ 46 P.n = v → (∀ e b, e < P.n → b < P.n → τ 47 (12 * e + b) = σ 47 (12 * e + b)) → (∀ j, j < i → τ 47 (12 * P.n + j) = 0 ∧ τ 47 (12 * j + P.n) = 0) →
        oT L (k + 1) 54 120 [some (.ref 7), some (.int t), some (.int w), some (.int a), some (.int v), some (.int 0), some (.int (nI i))] [] τ Post := by
      intro d
      induction d with
      | zero =>
        intro i τ hi f1 f2 f3 f4 f5 f6 f7 f8 f9 f10
        refine oT_N 3 rfl (oT_le 12 i rfl rfl (by decide) (by omega) (fun _ => ?_) (fun q => by omega))
        refine oT_N 10 rfl (oT_Ret rfl rfl rfl ?_)
        subst hPo
        have e2 : τ 7 2 = nI P.n := by rw [f2 2 (by decide)]; exact h2
        have e3 : ox_up τ 7 2 (τ 7 2 + Int32.ofInt 1) 7 2 - Int32.ofInt 1 = nI P.n := by
          rw [ox_up_at, if_pos rfl, e2, ox_inc]
          exact ox_sb1 P.n
        refine ⟨fun _ _ t' w' a' p1 p2 p3 p4 p5 => ⟨?_, ?_, ?_, ?_, ?_⟩, fun _ q => by omega, fun q => absurd hg q⟩
        · exact congrArg (fun z => (Sum.inl (some (.int z)) : ox_O)) e3
        · rw [ox_up_at, if_neg (by decide)]; exact f3
        · refine ⟨oEv_ok ⟨hT, hn, hok⟩ hn12 p2 p4 (fun q => (p5 q).2), ?_, ?_, fun e he => ?_⟩
          · rw [ox_up_at, if_neg (by decide), f2 1 (by decide)]; exact h1
          · rw [ox_up_at, if_pos rfl, e2, ox_inc]
            rfl
          · have he' : e < P.n + 1 := he
            rw [ox_up_ne (by decide), ox_up_ne (by decide), ox_up_ne (by decide), ox_up_ne (by decide), ox_up_ne (by decide)]
            show τ 43 e = nI (if e = P.n then t' else P.th e) ∧ τ 44 e = nI (if e = P.n then w' else P.kd e) ∧ τ 45 e = (if (if e = P.n then w' else P.kd e) < 2 then nI (if e = P.n then a' else P.pl e) else -1) ∧ τ 46 e = (if e = P.n then v else P.vl e) ∧ ∀ b, b < P.n + 1 → τ 47 (12 * e + b) = (if (if e = P.n ∨ b = P.n then false else P.dp e b) then 1 else 0)
            by_cases q : e = P.n
            · subst q
              rw [if_pos rfl, if_pos rfl, if_pos rfl, if_pos rfl]
              refine ⟨by rw [f5]; exact p1, by rw [f6]; exact p3, ?_, f8, fun b hb => ?_⟩
              · rw [f7]
                by_cases q2 : w' < 2
                · rw [if_pos q2, if_pos (show w < 2 by rw [p3]; exact (nI_ltI (b := 2) (by omega) (by decide)).mpr q2)]
                  exact (p5 q2).1
                · rw [if_neg q2, if_neg (show ¬ w < 2 by rw [p3]; exact fun q3 => q2 ((nI_ltI (b := 2) (by omega) (by decide)).mp q3))]
              · rw [if_pos (Or.inl rfl)]
                exact (f10 b (by omega)).1
            · rw [if_neg q, if_neg q, if_neg q, if_neg q]
              obtain ⟨g1, g2, g3, g4⟩ := f4 e q
              obtain ⟨i1, i2, i3, i4, i5⟩ := h3 e (by omega)
              refine ⟨by rw [g1]; exact i1, by rw [g2]; exact i2, by rw [g3]; exact i3, by rw [g4]; exact i4, fun b hb => ?_⟩
              by_cases q2 : b = P.n
              · rw [if_pos (Or.inr q2), q2]
                exact (f10 e (by omega)).2
              · rw [if_neg (show ¬ (e = P.n ∨ b = P.n) by omega), f9 e b (by omega) (by omega)]
                exact i5 b (by omega)
        · intro o ho
          rw [ox_up_ne (by omega)]
          exact f1 o ho
        · intro q hq
          rw [ox_up_at, if_neg (show ¬ q = 2 by omega)]
          exact f2 q (by omega)
      | succ d ih =>
        intro i τ hi f1 f2 f3 f4 f5 f6 f7 f8 f9 f10
        have e2 : τ 7 2 = nI P.n := by rw [f2 2 (by decide)]; exact h2
        have i1 : (Int8.ofInt 12).toInt32 * τ 7 2 + nI i = nI (12 * P.n + i) := by rw [e2]; exact ox_i2 _ _
        refine oT_N 3 rfl (oT_le 12 i rfl rfl (by decide) (by omega) (fun q => by omega) (fun _ => ?_))
        refine oT_N 9 rfl (oT_Zs (o := 47) (n := (Int8.ofInt 12).toInt32 * τ 7 2 + nI i) (x := if false then 1 else 0) rfl ⟨rfl, by decide⟩ (by rw [i1]; exact ox_ix (N := 144) (by omega) (by decide)) ?_)
        rw [i1, nI_clamp (by omega), ox_nar01]
        have i2 : (Int8.ofInt 12).toInt32 * nI i + ox_up τ 47 (12 * P.n + i) (if false then 1 else 0) 7 2 = nI (12 * i + P.n) := by rw [ox_up_ne (by decide), e2]; exact ox_i2 _ _
        refine oT_N 9 rfl (oT_Zs (o := 47) (n := (Int8.ofInt 12).toInt32 * nI i + ox_up τ 47 (12 * P.n + i) (if false then 1 else 0) 7 2) (x := if false then 1 else 0) rfl ⟨rfl, by decide⟩ (by rw [i2]; exact ox_ix (N := 144) (by omega) (by decide)) ?_)
        rw [i2, nI_clamp (by omega), ox_nar01]
        have e := ih (i + 1) (ox_up (ox_up τ 47 (12 * P.n + i) (if false then 1 else 0)) 47 (12 * i + P.n) (if false then 1 else 0)) (by omega) (fun o ho => by rw [ox_up_ne (by omega), ox_up_ne (by omega)]; exact f1 o ho) (fun q hq => by rw [ox_up_ne (by decide), ox_up_ne (by decide)]; exact f2 q hq) (by rw [ox_up_ne (by decide), ox_up_ne (by decide)]; exact f3) (fun e he => by
          rw [ox_up_ne (by decide), ox_up_ne (by decide), ox_up_ne (by decide), ox_up_ne (by decide), ox_up_ne (by decide), ox_up_ne (by decide), ox_up_ne (by decide), ox_up_ne (by decide)]; exact f4 e he) (by rw [ox_up_ne (by decide), ox_up_ne (by decide)]; exact f5) (by rw [ox_up_ne (by decide), ox_up_ne (by decide)]; exact f6) (by rw [ox_up_ne (by decide), ox_up_ne (by decide)]; exact f7) (by rw [ox_up_ne (by decide), ox_up_ne (by decide)]; exact f8) (fun e b he hb => by
          rw [ox_up_at, if_neg (by omega), ox_up_at, if_neg (by omega)]; exact f9 e b he hb) (fun j hj => by
          rw [ox_up_at, ox_up_at, ox_up_at, ox_up_at]
          by_cases q : j = i
          · subst q
            refine ⟨?_, ?_⟩
            · by_cases q3 : 12 * P.n + j = 12 * j + P.n
              · rw [if_pos q3]; rfl
              · rw [if_neg q3, if_pos rfl]; rfl
            · rw [if_pos rfl]; rfl
          · obtain ⟨g1, g2⟩ := f10 j (by omega)
            refine ⟨?_, ?_⟩
            · by_cases q3 : 12 * P.n + j = 12 * i + P.n
              · rw [if_pos q3]; rfl
              · rw [if_neg q3, if_neg (by omega)]; exact g1
            · by_cases q3 : 12 * j + P.n = 12 * P.n + i
              · rw [if_neg (by omega), if_pos q3]; rfl
              · rw [if_neg (by omega), if_neg q3]; exact g2)
        rw [← ox_inc i] at e
        exact oT_N 2 rfl e
    have u2 : ∀ τ : ox_S, τ 7 2 = nI P.n → ¬ (τ 7 2 < 0 ∨ 12 ≤ (τ 7 2).toNatClampNeg) := fun τ q => by rw [q]; exact n12
    have e0 : ox_up σ 7 0 0 7 2 = nI P.n := h2
    refine oT_N 5 rfl (oT_Is (o := 43) (n := ox_up σ 7 0 0 7 2) (x := t) rfl ⟨rfl, by decide⟩ (u2 _ e0) ?_)
    rw [e0, hc]
    have e1 : ox_up (ox_up σ 7 0 0) 43 P.n t 7 2 = nI P.n := h2
    refine oT_N 5 rfl (oT_Is (o := 44) (n := ox_up (ox_up σ 7 0 0) 43 P.n t 7 2) (x := w) rfl ⟨rfl, by decide⟩ (u2 _ e1) ?_)
    rw [e1, hc]
    have e2 : ox_up (ox_up (ox_up σ 7 0 0) 43 P.n t) 44 P.n w 7 2 = nI P.n := h2
    -- the value, then the loop
    have rest : ∀ x, x = (if w < 2 then a else -1) → oT L (k + 1) 54 106 [some (.ref 7), some (.int t), some (.int w), some (.int a), some (.int v), some (.int 0), none] [] (ox_up (ox_up (ox_up (ox_up σ 7 0 0) 43 P.n t) 44 P.n w) 45 P.n x) Post := fun x hx => by
      have e3 : ox_up (ox_up (ox_up (ox_up σ 7 0 0) 43 P.n t) 44 P.n w) 45 P.n x 7 2 = nI P.n := h2
      refine oT_N 5 rfl (oT_Is (o := 46) (n := ox_up (ox_up (ox_up (ox_up σ 7 0 0) 43 P.n t) 44 P.n w) 45 P.n x 7 2) (x := v) rfl ⟨rfl, by decide⟩ (u2 _ e3) ?_)
      rw [e3, hc]
      refine oT_N 2 rfl (fin 12 0 _ (by omega) (fun o ho => ?_) (fun q hq => ?_) rfl (fun e he => ⟨?_, ?_, ?_, ?_⟩) ?_ ?_ ?_ ?_ (fun e b _ _ => rfl) (fun j hj => by omega))
      · rw [ox_up_ne (by omega), ox_up_ne (by omega), ox_up_ne (by omega), ox_up_ne (by omega), ox_up_ne (by omega)]
      · rw [ox_up_ne (by decide), ox_up_ne (by decide), ox_up_ne (by decide), ox_up_ne (by decide), ox_up_at, if_neg hq]
      · rw [ox_up_ne (by decide), ox_up_ne (by decide), ox_up_ne (by decide), ox_up_at, if_neg he, ox_up_ne (by decide)]
      · rw [ox_up_ne (by decide), ox_up_ne (by decide), ox_up_at, if_neg he, ox_up_ne (by decide), ox_up_ne (by decide)]
      · rw [ox_up_ne (by decide), ox_up_at, if_neg he, ox_up_ne (by decide), ox_up_ne (by decide), ox_up_ne (by decide)]
      · rw [ox_up_at, if_neg he, ox_up_ne (by decide), ox_up_ne (by decide), ox_up_ne (by decide), ox_up_ne (by decide)]
      · rw [ox_up_ne (by decide), ox_up_ne (by decide), ox_up_ne (by decide), ox_up_at, if_pos rfl]
      · rw [ox_up_ne (by decide), ox_up_ne (by decide), ox_up_at, if_pos rfl]
      · rw [ox_up_ne (by decide), ox_up_at, if_pos rfl]; exact hx
      · rw [ox_up_at, if_pos rfl]
    refine oT_N 7 rfl (oT_If (fun (q : (2 : Int32) ≤ w) => ?_) (fun (q : ¬ (2 : Int32) ≤ w) => ?_))
    · refine oT_N 1 rfl (oT_Is (o := 45) (n := ox_up (ox_up (ox_up σ 7 0 0) 43 P.n t) 44 P.n w 7 2) (x := Int32.ofInt (-1)) rfl ⟨rfl, by decide⟩ (u2 _ e2) ?_)
      rw [e2, hc]
      exact rest _ (by rw [if_neg (Int32.not_lt.mpr q)]; rfl)
    · refine oT_N 2 rfl (oT_Is (o := 45) (n := ox_up (ox_up (ox_up σ 7 0 0) 43 P.n t) 44 P.n w 7 2) (x := a) rfl ⟨rfl, by decide⟩ (u2 _ e2) ?_)
      rw [e2, hc]
      exact rest _ (by rw [if_pos (Int32.not_le.mp q)])
  -- good or bad
  have main : ∀ z : Bool, (z = true ↔ ¬ oEg P t w a) → oT L (k + 1) 54 40 [some (.ref 7), some (.int t), some (.int w), some (.int a), some (.int v), none, none] [.int (if z then 1 else 0)] σ Post := fun z hz => by
    refine oT_N 7 rfl (oT_eq P.n 12 h2 rfl (by omega) (by decide) (fun q => ?_) (fun q => ?_))
    · refine oT_N 2 rfl (oT_V rfl rfl rfl rfl (by omega) (by omega) ot_throwing (fun x σ2 h => by cases h.1) (fun v σ2 hv => ?_))
      obtain ⟨hv, rfl⟩ := hv
      cases hv
      cases z with
      | true =>
        refine oT_N 1 rfl (oT_If (fun q => absurd q (by decide)) (fun _ => ?_))
        refine oT_N 1 rfl (oT_Ret rfl rfl rfl ?_)
        subst hPo
        exact ⟨fun q => absurd q (hz.mp rfl), fun q => absurd q (hz.mp rfl), fun _ => ⟨⟨_, rfl⟩, rfl⟩⟩
      | false =>
        have hg : oEg P t w a := Classical.byContradiction (fun q => by have := hz.mpr q; cases this)
        refine oT_N 1 rfl (oT_If (fun q => absurd q (by decide)) (fun _ => ?_))
        refine oT_N 1 rfl (oT_Ret rfl rfl rfl ?_)
        subst hPo
        exact ⟨fun _ q => by omega, fun _ _ => ⟨⟨_, rfl⟩, rfl⟩, fun q => absurd hg q⟩
    · refine oT_N 1 rfl (oT_V rfl rfl rfl rfl (by omega) (by omega) ot_throwing (fun x σ2 h => by cases h.1) (fun v σ2 hv => ?_))
      obtain ⟨hv, rfl⟩ := hv
      cases hv
      cases z with
      | true =>
        refine oT_N 1 rfl (oT_If (fun q => absurd q (by decide)) (fun _ => ?_))
        refine oT_N 1 rfl (oT_Ret rfl rfl rfl ?_)
        subst hPo
        exact ⟨fun q => absurd q (hz.mp rfl), fun q => absurd q (hz.mp rfl), fun _ => ⟨⟨_, rfl⟩, rfl⟩⟩
      | false =>
        have hg : oEg P t w a := Classical.byContradiction (fun q => by have := hz.mpr q; cases this)
        refine oT_N 1 rfl (oT_If (fun _ => ?_) (fun q => absurd (by decide) q))
        exact good hg (by omega)
  have bad : ¬ oEg P t w a → oT L (k + 1) 54 35 [some (.ref 7), some (.int t), some (.int w), some (.int a), some (.int v), none, none] [] σ Post := fun q => oT_N 2 rfl (main true ⟨fun _ => q, fun _ => rfl⟩)
  have fine : oEg P t w a → oT L (k + 1) 54 39 [some (.ref 7), some (.int t), some (.int w), some (.int a), some (.int v), none, none] [] σ Post := fun q => oT_N 1 rfl (main false ⟨fun e => (by cases e), fun e => absurd q e⟩)
  refine oT_N 2 rfl (oT_If (fun (q : t < 0) => bad (fun g => Int32.not_le.mpr q g.1.1)) (fun (q1 : ¬ t < 0) => ?_))
  refine oT_N 4 rfl (oT_If (fun (q : σ 7 1 ≤ t) => bad (fun g => Int32.not_lt.mpr q (by rw [h1]; exact g.1.2))) (fun (q2 : ¬ σ 7 1 ≤ t) => ?_))
  rw [h1] at q2
  refine oT_N 2 rfl (oT_If (fun (q : w < 0) => bad (fun g => Int32.not_le.mpr q g.2.1.1)) (fun (q3 : ¬ w < 0) => ?_))
  refine oT_N 3 rfl (oT_If (fun (q : (2 : Int32) < w) => bad (fun g => Int32.not_lt.mpr g.2.1.2 q)) (fun (q4 : ¬ (2 : Int32) < w) => ?_))
  refine oT_N 3 rfl (oT_If (fun (q : (2 : Int32) ≤ w) => fine ⟨⟨Int32.not_lt.mp q1, Int32.not_le.mp q2⟩, ⟨Int32.not_lt.mp q3, Int32.not_lt.mp q4⟩, fun e => absurd q (Int32.not_le.mpr e)⟩) (fun (q5 : ¬ (2 : Int32) ≤ w) => ?_))
  refine oT_N 2 rfl (oT_If (fun (q : a < 0) => bad (fun g => Int32.not_le.mpr q (g.2.2 (Int32.not_le.mp q5)).1)) (fun (q6 : ¬ a < 0) => ?_))
  refine oT_N 3 rfl (oT_If (fun (q : a < (4 : Int32)) => fine ⟨⟨Int32.not_lt.mp q1, Int32.not_le.mp q2⟩, ⟨Int32.not_lt.mp q3, Int32.not_lt.mp q4⟩, fun _ => ⟨Int32.not_lt.mp q6, q⟩⟩) (fun (q : ¬ a < (4 : Int32)) => bad (fun g => q (g.2.2 (Int32.not_le.mp q5)).2)))
