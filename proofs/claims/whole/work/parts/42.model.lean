theorem ot_isEvent {L k : Nat} {σ : ox_S} {P : oPr} {e : Int32} (h : oM σ P) : oT L k 55 0 [some (.ref 7), some (.int e)] [] σ (fun o σ' => o = .inl (some (.int (if 0 ≤ e ∧ e < nI P.n then 1 else 0))) ∧ σ' = σ) := by
  have h2 := h.2.2.1
  refine oT_N 2 rfl (oT_If (fun (q : e < 0) => ?_) (fun (q : ¬ e < 0) => ?_))
  · refine oT_N 1 rfl (oT_Ret rfl rfl rfl ⟨?_, rfl⟩)
    rw [if_neg (fun q2 => Int32.not_le.mpr q q2.1)]
    rfl
  · refine oT_N 4 rfl (oT_If (fun (q2 : σ 7 2 ≤ e) => ?_) (fun (q2 : ¬ σ 7 2 ≤ e) => ?_))
    · rw [h2] at q2
      refine oT_N 1 rfl (oT_Ret rfl rfl rfl ⟨?_, rfl⟩)
      rw [if_neg (fun q3 => Int32.not_lt.mpr q2 q3.2)]
      rfl
    · rw [h2] at q2
      refine oT_N 2 rfl (oT_Ret rfl rfl rfl ⟨?_, rfl⟩)
      rw [if_pos ⟨Int32.not_lt.mp q, Int32.not_le.mp q2⟩]
      rfl
/-- b may depend on a -/
def oDo (P : oPr) (a b : Nat) : Prop := a < P.n ∧ b < P.n ∧ P.kd a = 0 ∧ P.th a = P.th b ∧ a < b ∧ P.kd b ≠ 2
def oDg' (P : oPr) (a b : Int32) : Prop := ∃ a' b', a = nI a' ∧ b = nI b' ∧ oDo P a' b'
def oDp (P : oPr) (a b : Nat) : oPr := (P.T, P.n, P.th, P.kd, P.pl, P.vl, fun x y => decide (x = a ∧ y = b) || P.dp x y)
theorem oT_if1 {L k mi p q : Nat} {ls : List (Option Value)} {st : List Value} {σ : ox_S} {Post : ox_O → ox_S → Prop} {C : Prop} [Decidable C] (f : ¬ C → oT L k mi p ls st σ Post) (g : C → oT L k mi q ls st σ Post) : oT L k mi (if (if C then (1 : Int32) else 0) = 0 then p else q) ls st σ Post := by
  by_cases h : C
  · rw [if_pos h]
    exact oT_If (fun q => absurd q (by decide)) (fun _ => g h)
  · rw [if_neg h]
    exact oT_If (fun _ => f h) (fun q => absurd rfl q)
set_option maxHeartbeats 1000000 in
theorem ot_mdepends {L k : Nat} {σ : ox_S} {P : oPr} {a b : Int32} (h : oM σ P) (hk : 2 ≤ k) (hk9 : k ≤ 9) :
    oT L k 56 0 [some (.ref 7), some (.int a), some (.int b), none, none] [] σ (fun o σ' => (∀ a' b', a = nI a' → b = nI b' → oDo P a' b' → o = .inl (some (.int (if P.dp a' b' then 0 else 1))) ∧ σ' 7 0 = 0 ∧ oM σ' (oDp P a' b') ∧ oFP σ σ') ∧ (¬ oDg' P a b → (∃ x, o = .inl (some (.int x))) ∧ σ' = ox_up σ 7 0 1)) := by
  obtain ⟨k, rfl⟩ : ∃ k', k = k' + 1 := ⟨k - 1, by omega⟩
  obtain ⟨⟨hT, hn, hok⟩, h1, h2, h3⟩ := id h
  generalize hPo : (fun (o : ox_O) (σ' : ox_S) => (∀ a' b', a = nI a' → b = nI b' → oDo P a' b' → o = .inl (some (.int (if P.dp a' b' then 0 else 1))) ∧ σ' 7 0 = 0 ∧ oM σ' (oDp P a' b') ∧ oFP σ σ') ∧ (¬ oDg' P a b → (∃ x, o = .inl (some (.int x))) ∧ σ' = ox_up σ 7 0 1)) = Post
  have bad : ¬ oDg' P a b → oT L (k + 1) 56 59 [some (.ref 7), some (.int a), some (.int b), none, none] [] σ Post := fun hb => by
    refine oT_N 5 rfl (oT_If (fun _ => ?_) (fun q => absurd (show (Int32.ofInt 0) = 0 by decide) q))
    refine oT_N 3 rfl (oT_V rfl rfl rfl rfl (by omega) (by omega) ot_throwing (fun x σ2 h => by cases h.1) (fun v σ2 hv => ?_))
    obtain ⟨hv, rfl⟩ := hv
    cases hv
    refine oT_N 1 rfl (oT_If (fun q => absurd q (by decide)) (fun _ => ?_))
    refine oT_N 1 rfl (oT_Ret rfl rfl rfl ?_)
    subst hPo
    exact ⟨fun a' b' q1 q2 q3 => absurd ⟨a', b', q1, q2, q3⟩ hb, fun _ => ⟨⟨_, rfl⟩, rfl⟩⟩
  refine oT_N 2 rfl (oT_V rfl rfl rfl rfl (by omega) (by omega) (ot_isEvent h) (fun x σ2 h => by cases h.1) (fun v σ2 hv => ?_))
  obtain ⟨hv, rfl⟩ := hv
  cases hv
  refine oT_N 1 rfl (oT_if1 (fun q => bad ?_) (fun qa => ?_))
  · rintro ⟨a', b', rfl, rfl, g1, -⟩
    exact q ⟨nI_pos' (by omega), nI_lt g1 (by omega)⟩
  refine oT_N 2 rfl (oT_V rfl rfl rfl rfl (by omega) (by omega) (ot_isEvent h) (fun x σ2 h => by cases h.1) (fun v σ2 hv => ?_))
  obtain ⟨hv, rfl⟩ := hv
  cases hv
  refine oT_N 1 rfl (oT_if1 (fun q => bad ?_) (fun qb => ?_))
  · rintro ⟨a', b', rfl, rfl, g1, g2, -⟩
    exact q ⟨nI_pos' (by omega), nI_lt g2 (by omega)⟩
  obtain ⟨ea, la⟩ := ox_natlt qa.1 qa.2 (by omega)
  obtain ⟨eb, lb⟩ := ox_natlt qb.1 qb.2 (by omega)
  generalize a.toNatClampNeg = a' at ea la
  generalize b.toNatClampNeg = b' at eb lb
  subst ea eb
  obtain ⟨i1, i2, i3, i4, i5⟩ := h3 a' la
  obtain ⟨j1, j2, j3, j4, j5⟩ := h3 b' lb
  obtain ⟨p1, p2, p3⟩ := hok a' la
  obtain ⟨r1, r2, r3⟩ := hok b' lb
  have nat2 : ∀ {x y : Nat}, nI a' = nI x → nI b' = nI y → x < P.n → y < P.n → x = a' ∧ y = b' := fun e1 e2 h1 h2 => ⟨((nI_eq (by omega) (by omega)).mp e1).symm, ((nI_eq (by omega) (by omega)).mp e2).symm⟩
  have na : ¬ (nI a' < 0 ∨ 12 ≤ (nI a').toNatClampNeg) := ox_ix (by omega) (by decide)
  have nb : ¬ (nI b' < 0 ∨ 12 ≤ (nI b').toNatClampNeg) := ox_ix (by omega) (by decide)
  have ca : (nI a').toNatClampNeg = a' := nI_clamp (by omega)
  have cb : (nI b').toNatClampNeg = b' := nI_clamp (by omega)
  refine oT_N 3 rfl (oT_I (o := 44) (n := nI a') rfl (Or.inl ⟨rfl, by decide⟩) na ?_)
  rw [ca, i2]
  refine oT_N 1 rfl (oT_eq (P.kd a') 0 rfl rfl (by omega) (by decide) (fun g3 => ?_) (fun g3 => bad ?_))
  · refine oT_N 3 rfl (oT_I (o := 43) (n := nI a') rfl (Or.inl ⟨rfl, by decide⟩) na ?_)
    rw [ca, i1]
    refine oT_N 3 rfl (oT_I (o := 43) (n := nI b') rfl (Or.inl ⟨rfl, by decide⟩) nb ?_)
    rw [cb, j1]
    refine oT_N 1 rfl (oT_eq (P.th a') (P.th b') rfl rfl (by omega) (by omega) (fun g4 => ?_) (fun g4 => bad ?_))
    · refine oT_N 3 rfl (oT_le b' a' rfl rfl (by omega) (by omega) (fun g5 => bad ?_) (fun g5 => ?_))
      · rintro ⟨x, y, e1, e2, d1, d2, d3, d4, d5, d6⟩
        obtain ⟨rfl, rfl⟩ := nat2 e1 e2 d1 d2
        omega
      · refine oT_N 3 rfl (oT_I (o := 44) (n := nI b') rfl (Or.inl ⟨rfl, by decide⟩) nb ?_)
        rw [cb, j2]
        refine oT_N 2 rfl (oT_eq (P.kd b') 2 rfl rfl (by omega) (by decide) (fun g6 => bad ?_) (fun g6 => ?_))
        · rintro ⟨x, y, e1, e2, d1, d2, d3, d4, d5, d6⟩
          obtain ⟨rfl, rfl⟩ := nat2 e1 e2 d1 d2
          exact d6 g6
        · refine oT_N 6 rfl (oT_If (fun q => absurd q (by decide)) (fun _ => ?_))
          refine oT_N 2 rfl (oT_V rfl rfl rfl rfl (by omega) (by omega) ot_throwing (fun x σ2 h => by cases h.1) (fun v σ3 hv => ?_))
          obtain ⟨hv, rfl⟩ := hv
          cases hv
          show oT L (k + 1) 56 75 [some (.ref 7), some (.int (nI a')), some (.int (nI b')), some (.int 1), none] [.int 0] (ox_up σ2 7 0 0) Post
          refine oT_N 1 rfl (oT_If (fun _ => ?_) (fun (q : ¬ (0 : Int32) = 0) => absurd rfl q))
          have hix : ¬ ((Int8.ofInt 12).toInt32 * nI a' + nI b' < 0 ∨ 144 ≤ ((Int8.ofInt 12).toInt32 * nI a' + nI b').toNatClampNeg) := by rw [ox_i2]; exact ox_ix (by omega) (by decide)
          refine oT_N 7 rfl (oT_Z (o := 47) (n := (Int8.ofInt 12).toInt32 * nI a' + nI b') rfl ⟨rfl, by decide⟩ hix ?_)
          rw [ox_i2, nI_clamp (by omega), ox_up_ne (by decide), i5 b' lb]
          refine oT_N 9 rfl (oT_Zs (o := 47) (n := (Int8.ofInt 12).toInt32 * nI a' + nI b') (x := if true then 1 else 0) rfl ⟨rfl, by decide⟩ hix ?_)
          rw [ox_i2, nI_clamp (by omega), ox_nar01]
          have post : ∀ x : Int32, x = (if P.dp a' b' then 0 else 1) → Post (.inl (some (.int x))) (ox_up (ox_up σ2 7 0 0) 47 (12 * a' + b') (if true then 1 else 0)) := fun x hx => by
            subst hPo
            refine ⟨fun x' y' e1 e2 d => ?_, fun q => absurd ⟨a', b', rfl, rfl, la, lb, g3, g4, g5, g6⟩ q⟩
            obtain ⟨rfl, rfl⟩ := nat2 e1 e2 d.1 d.2.1
            refine ⟨by rw [hx], ?_, ⟨⟨hT, hn, hok⟩, ?_, ?_, fun e he => ?_⟩, fun o ho => ?_, fun q hq => ?_⟩
            · rw [ox_up_ne (by decide), ox_up_at, if_pos rfl]
            · rw [ox_up_ne (by decide), ox_up_at, if_neg (by decide)]
              exact h1
            · rw [ox_up_ne (by decide), ox_up_at, if_neg (by decide)]
              exact h2
            · obtain ⟨k1, k2, k3, k4, k5⟩ := h3 e he
              rw [ox_up_ne (by decide), ox_up_ne (by decide), ox_up_ne (by decide), ox_up_ne (by decide), ox_up_ne (by decide), ox_up_ne (by decide), ox_up_ne (by decide), ox_up_ne (by decide)]
              refine ⟨k1, k2, k3, k4, fun y hy => ?_⟩
              have hy' : y < P.n := hy
              have he' : e < P.n := he
              rw [ox_up_at]
              show _ = if (decide (e = x' ∧ y = y') || P.dp e y) then 1 else 0
              by_cases q : e = x' ∧ y = y'
              · rw [if_pos (by omega), decide_eq_true q]
                rfl
              · rw [if_neg (by omega), decide_eq_false q, ox_up_ne (by decide)]
                exact k5 y hy
            · rw [ox_up_ne (by omega), ox_up_ne (by omega)]
            · rw [ox_up_ne (by decide), ox_up_at, if_neg (by omega)]
          cases hd : P.dp a' b' with
          | false =>
            refine oT_N 2 rfl (oT_If (fun _ => ?_) (fun (q : ¬ (0 : Int32) = 0) => absurd rfl q))
            exact oT_N 2 rfl (oT_Ret rfl rfl rfl (post _ (by rw [hd]; rfl)))
          | true =>
            refine oT_N 2 rfl (oT_If (fun (q : (1 : Int32) = 0) => absurd q (by decide)) (fun _ => ?_))
            exact oT_N 1 rfl (oT_Ret rfl rfl rfl (post _ (by rw [hd]; rfl)))
    · rintro ⟨x, y, e1, e2, d1, d2, d3, d4, d5, d6⟩
      obtain ⟨rfl, rfl⟩ := nat2 e1 e2 d1 d2
      exact g4 d4
  · rintro ⟨x, y, e1, e2, d1, d2, d3, d4, d5, d6⟩
    obtain ⟨rfl, rfl⟩ := nat2 e1 e2 d1 d2
    exact g3 d3
/-- a model with one relation more; with one rule more; with none -/
def oMk (M : oMo) (h a b : Nat) : oMo := (M.R + 1, M.Q, fun r => if r = M.R then h else M.hw r, fun r => if r = M.R then a else M.lf r, fun r => if r = M.R then b else M.rt r, M.rl)
def oMr (M : oMo) (r : Nat) : oMo := (M.R, M.Q + 1, M.hw, M.lf, M.rt, fun i => if i = M.Q then r else M.rl i)
def oM0 (M : oMo) : oMo := (12, 0, M.hw, M.lf, M.rt, M.rl)
theorem oMk_ok {M : oMo} {h a b : Nat} (hM : M.ok) (hR : M.R < 40) (hh : h ≤ 5) (ha : a < M.R) (hb : b < M.R) : (oMk M h a b).ok := by
  obtain ⟨m1, m2, m3, m4, m5⟩ := hM
  refine ⟨by show 12 ≤ M.R + 1; omega, by show M.R + 1 ≤ 40; omega, m3, fun r q1 q2 => ?_, fun i hi => ?_⟩
  · have q2' : r < M.R + 1 := q2
    show (if r = M.R then h else M.hw r) ≤ 5 ∧ (if r = M.R then a else M.lf r) < r ∧ (if r = M.R then b else M.rt r) < r
    by_cases q : r = M.R
    · rw [if_pos q, if_pos q, if_pos q]
      omega
    · rw [if_neg q, if_neg q, if_neg q]
      exact m4 r q1 (by omega)
  · have := m5 i hi
    show M.rl i < M.R + 1
    omega
theorem oMr_ok {M : oMo} {r : Nat} (hM : M.ok) (hQ : M.Q < 8) (hr : r < M.R) : (oMr M r).ok := by
  obtain ⟨m1, m2, m3, m4, m5⟩ := hM
  refine ⟨m1, m2, by show M.Q + 1 ≤ 8; omega, m4, fun i hi => ?_⟩
  have hi' : i < M.Q + 1 := hi
  show (if i = M.Q then r else M.rl i) < M.R
  by_cases q : i = M.Q
  · rw [if_pos q]; exact hr
  · rw [if_neg q]; exact m5 i (by omega)
theorem oM0_ok {M : oMo} : (oM0 M).ok := ⟨Nat.le_refl 12, show (12 : Nat) ≤ 40 by decide, show (0 : Nat) ≤ 8 by decide, fun r q1 q2 => absurd (show r < 12 from q2) (by omega), fun i hi => absurd (show i < 0 from hi) (by omega)⟩
/-- the reference changes only what holds the model -/
def oFQ (σ σ' : ox_S) : Prop := (∀ o, o < 7 ∨ (7 < o ∧ o < 48) ∨ 51 < o → σ' o = σ o) ∧ ∀ q, q ≠ 0 → q ≠ 8 → q ≠ 12 → σ' 7 q = σ 7 q
theorem oFQ.tr {σ σ' σ'' : ox_S} (h : oFQ σ σ') (g : oFQ σ' σ'') : oFQ σ σ'' := ⟨fun o ho => by rw [g.1 o ho, h.1 o ho], fun q q1 q2 q3 => by rw [g.2 q q1 q2 q3, h.2 q q1 q2 q3]⟩
theorem ot_madd {L k h a b : Nat} {σ : ox_S} {M : oMo} (hm : oMm σ M) (hR : M.R < 40) (hh : h ≤ 5) (ha : a < M.R) (hb : b < M.R) :
    oT L k 58 0 [some (.ref 7), some (.int (nI h)), some (.int (nI a)), some (.int (nI b))] [] σ (fun o σ' => o = .inl (some (.int (nI M.R))) ∧ oMm σ' (oMk M h a b) ∧ oFQ σ σ' ∧ σ' 7 0 = σ 7 0) := by
  obtain ⟨hok, g1, g2, g3, g4⟩ := id hm
  have n40 : ∀ τ : ox_S, τ 7 8 = nI M.R → ¬ (τ 7 8 < 0 ∨ 40 ≤ (τ 7 8).toNatClampNeg) := fun τ q => by rw [q]; exact ox_ix (by omega) (by decide)
  have hc : (nI M.R).toNatClampNeg = M.R := nI_clamp (by omega)
  refine oT_N 5 rfl (oT_Is (o := 48) (n := σ 7 8) (x := nI h) rfl ⟨rfl, by decide⟩ (n40 _ g1) ?_)
  rw [g1, hc]
  have e1 : ox_up σ 48 M.R (nI h) 7 8 = nI M.R := g1
  refine oT_N 5 rfl (oT_Is (o := 49) (n := ox_up σ 48 M.R (nI h) 7 8) (x := nI a) rfl ⟨rfl, by decide⟩ (n40 _ e1) ?_)
  rw [e1, hc]
  have e2 : ox_up (ox_up σ 48 M.R (nI h)) 49 M.R (nI a) 7 8 = nI M.R := g1
  refine oT_N 5 rfl (oT_Is (o := 50) (n := ox_up (ox_up σ 48 M.R (nI h)) 49 M.R (nI a) 7 8) (x := nI b) rfl ⟨rfl, by decide⟩ (n40 _ e2) ?_)
  rw [e2, hc]
  refine oT_N 10 rfl (oT_Ret rfl rfl rfl ⟨?_, ⟨oMk_ok hok hR hh ha hb, ?_, ?_, fun r q1 q2 => ?_, fun i hi => ?_⟩, ⟨fun o ho => ?_, fun q q1 q2 q3 => ?_⟩, rfl⟩)
  · have e3 : ox_up (ox_up (ox_up (ox_up σ 48 M.R (nI h)) 49 M.R (nI a)) 50 M.R (nI b)) 7 8 (σ 7 8 + Int32.ofInt 1) 7 8 - Int32.ofInt 1 = nI M.R := by
      rw [ox_up_at, if_pos rfl, g1, ox_inc]
      exact ox_sb1 _
    exact congrArg (fun z => (Sum.inl (some (.int z)) : ox_O)) e3
  · show σ 7 8 + Int32.ofInt 1 = nI (M.R + 1)
    rw [g1, ox_inc]
  · exact g2
  · have q2' : r < M.R + 1 := q2
    show upd (σ 48) M.R (nI h) r = nI (if r = M.R then h else M.hw r) ∧ upd (σ 49) M.R (nI a) r = nI (if r = M.R then a else M.lf r) ∧ upd (σ 50) M.R (nI b) r = nI (if r = M.R then b else M.rt r)
    unfold upd
    by_cases q : r = M.R
    · rw [if_pos q, if_pos q, if_pos q, if_pos q, if_pos q, if_pos q]
      exact ⟨rfl, rfl, rfl⟩
    · rw [if_neg q, if_neg q, if_neg q, if_neg q, if_neg q, if_neg q]
      exact g3 r q1 (by omega)
  · exact g4 i hi
  · rw [ox_up_ne (by omega), ox_up_ne (by omega), ox_up_ne (by omega), ox_up_ne (by omega)]
  · rw [ox_up_at, if_neg q2, ox_up_ne (by decide), ox_up_ne (by decide), ox_up_ne (by decide)]
/-- three unions and a rule -/
def oMd3 (M : oMo) (r f : Nat) : oMo := oMr (oMk (oMk (oMk M 0 r f) 0 M.R 2) 0 (M.R + 1) 3) (M.R + 2)
theorem ot_mordered {L k r f : Nat} {σ : ox_S} {M : oMo} (hm : oMm σ M) (hR : M.R < 38) (hQ : M.Q < 8) (hr : r < M.R) (hf : f < M.R) (hk : 2 ≤ k) (hk9 : k ≤ 9) :
    oT L k 61 0 [some (.ref 7), some (.int (nI r)), some (.int (nI f)), none] [] σ (fun o σ' => o = .inl none ∧ oMm σ' (oMd3 M r f) ∧ oFQ σ σ' ∧ σ' 7 0 = σ 7 0) := by
  obtain ⟨k, rfl⟩ : ∃ k', k = k' + 1 := ⟨k - 1, by omega⟩
  have h12 := hm.1.1
  refine oT_N 4 rfl (oT_V rfl rfl rfl rfl (by omega) (by omega) (ot_madd (h := 0) (a := r) (b := f) hm (by omega) (by omega) hr hf) (fun x σ2 h => by cases h.1) (fun v σ1 hv => ?_))
  obtain ⟨hv, m1, f1, z1⟩ := hv
  cases hv
  refine oT_N 5 rfl (oT_V rfl rfl rfl rfl (by omega) (by omega) (ot_madd (h := 0) (a := M.R) (b := 2) m1 (by show M.R + 1 < 40; omega) (by omega) (by show M.R < M.R + 1; omega) (by show 2 < M.R + 1; omega)) (fun x σ2 h => by cases h.1) (fun v σ2 hv => ?_))
  obtain ⟨hv, m2, f2, z2⟩ := hv
  cases hv
  refine oT_N 9 rfl (oT_V rfl rfl rfl rfl (by omega) (by omega) (ot_madd (h := 0) (a := M.R + 1) (b := 3) m2 (by show M.R + 1 + 1 < 40; omega) (by omega) (by show M.R + 1 < M.R + 1 + 1; omega) (by show 3 < M.R + 1 + 1; omega)) (fun x σ2 h => by cases h.1) (fun v σ3 hv => ?_))
  obtain ⟨hv, m3, f3, z3⟩ := hv
  cases hv
  have e12 : σ2 7 12 = nI M.Q := m2.2.2.1
  have e3 : σ3 7 12 = nI M.Q := m3.2.2.1
  refine oT_Is (o := 51) (n := σ2 7 12) (x := nI (M.R + 2)) rfl ⟨rfl, by decide⟩ (by rw [e12]; exact ox_ix (N := 8) (by omega) (by decide)) ?_
  rw [e12, nI_clamp (by omega)]
  refine oT_N 6 rfl (oT_Retv rfl rfl ⟨rfl, ⟨oMr_ok m3.1 hQ (by show M.R + 2 < M.R + 1 + 1 + 1; omega), ?_, ?_, fun r q1 q2 => ?_, fun i hi => ?_⟩, (f1.tr f2).tr (f3.tr ⟨fun o ho => ?_, fun q q1 q2 q3 => ?_⟩), ?_⟩)
  · exact m3.2.1
  · show σ3 7 12 + Int32.ofInt 1 = nI (M.Q + 1)
    rw [e3, ox_inc]
  · exact m3.2.2.2.1 r q1 q2
  · have hi' : i < M.Q + 1 := hi
    show upd (σ3 51) M.Q (nI (M.R + 2)) i = nI (if i = M.Q then M.R + 2 else M.rl i)
    unfold upd
    by_cases q : i = M.Q
    · rw [if_pos q, if_pos q]
    · rw [if_neg q, if_neg q]
      exact m3.2.2.2.2 i (show i < M.Q by omega)
  · rw [ox_up_ne (by omega), ox_up_ne (by omega)]
  · rw [ox_up_at, if_neg q3, ox_up_ne (by decide)]
  · show σ3 7 0 = σ 7 0
    rw [z3, z2, z1]
