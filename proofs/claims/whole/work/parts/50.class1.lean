theorem ox_o {x y : Int32} (h : x = y) : (Sum.inl (some (.int x)) : ox_O) = .inl (some (.int y)) := by rw [h]
/-- the class holds the model -/
def oCo (σ : ox_S) (M : oMo) : Prop := M.ok ∧ σ 2 0 = nI M.R ∧ σ 2 1 = nI M.Q ∧ (∀ r, 12 ≤ r → r < M.R → σ 22 r = nI (M.hw r) ∧ σ 23 r = nI (M.lf r) ∧ σ 24 r = nI (M.rt r)) ∧ ∀ i, i < M.Q → σ 25 i = nI (M.rl i)
theorem oCo_ext {M : oMo} {σ τ : ox_S} (h : oCo σ M) (h1 : τ 2 = σ 2) (h3 : ∀ o, 22 ≤ o → o ≤ 25 → τ o = σ o) : oCo τ M := by
  obtain ⟨a1, a2, a3, a4, a5⟩ := h
  refine ⟨a1, by rw [h1]; exact a2, by rw [h1]; exact a3, fun r q1 q2 => ?_, fun i hi => ?_⟩
  · rw [h3 22 (by decide) (by decide), h3 23 (by decide) (by decide), h3 24 (by decide) (by decide)]
    exact a4 r q1 q2
  · rw [h3 25 (by decide) (by decide)]
    exact a5 i hi
/-- the class changes only what holds the model -/
def oFC2 (σ σ' : ox_S) : Prop := ∀ o, o ≠ 2 → o < 22 ∨ 25 < o → σ' o = σ o
theorem oFC2.tr {σ σ' σ'' : ox_S} (h : oFC2 σ σ') (g : oFC2 σ' σ'') : oFC2 σ σ'' := fun o o1 o2 => by rw [g o o1 o2, h o o1 o2]
section OYA
variable {L k : Nat} {σ : ox_S} {P : oPr} {M : oMo}
theorem ot_takesTwo {h : Nat} (hh : h ≤ 5) : oT L k 50 0 [some (.int (nI h))] [] σ (fun o σ' => o = .inl (some (.int (if h < 4 then 1 else 0))) ∧ σ' = σ) := by
  refine oT_N 3 rfl (oT_eq h 4 rfl rfl (by omega) (by decide) (fun q => ?_) (fun q => ?_))
  · refine oT_N 1 rfl (oT_Ret rfl rfl rfl ⟨?_, rfl⟩)
    rw [if_neg (by omega)]
    rfl
  · refine oT_N 3 rfl (oT_eq h 5 rfl rfl (by omega) (by decide) (fun q => ?_) (fun q => ?_))
    · refine oT_N 1 rfl (oT_Ret rfl rfl rfl ⟨?_, rfl⟩)
      rw [if_neg (by omega)]
      rfl
    · refine oT_N 2 rfl (oT_Ret rfl rfl rfl ⟨?_, rfl⟩)
      rw [if_pos (by omega)]
      rfl
theorem ot_addRelation {h a b : Nat} {y : Int32} (hm : oCo σ M) (hR : M.R < 40) (hh : h ≤ 5) (ha : a < M.R) (hb : b < M.R) (hy : h < 4 → y = nI b) (hy2 : 4 ≤ h → b = a) (hk : 2 ≤ k) (hk9 : k ≤ 9) :
    oT L k 20 0 [some (.ref 2), some (.int (nI h)), some (.int (nI a)), some (.int y), none] [] σ (fun o σ' => o = .inl (some (.int (nI M.R))) ∧ oCo σ' (oMk M h a b) ∧ oFC2 σ σ') := by
  obtain ⟨k, rfl⟩ : ∃ k', k = k' + 1 := ⟨k - 1, by omega⟩
  obtain ⟨hok, g1, g2, g3, g4⟩ := id hm
  have n40 : ¬ (nI M.R < 0 ∨ 40 ≤ (nI M.R).toNatClampNeg) := ox_ix (by omega) (by decide)
  have hc : (nI M.R).toNatClampNeg = M.R := nI_clamp (by omega)
  refine oT_N 7 rfl (oT_Is (o := 22) (n := σ 2 0) (x := nI h) rfl ⟨rfl, by decide⟩ (by rw [g1]; exact n40) ?_)
  rw [g1, hc]
  refine oT_N 4 rfl (oT_Is (o := 23) (n := nI M.R) (x := nI a) rfl ⟨rfl, by decide⟩ n40 ?_)
  rw [hc]
  refine oT_N 4 rfl (oT_S rfl rfl rfl (by omega) (by omega) (ot_takesTwo hh) (fun x σ2 h => by cases h.1) (fun v σ2 hv => ?_))
  obtain ⟨hv, rfl⟩ := hv
  cases hv
  have fin : oT L (k + 1) 20 41 [some (.ref 2), some (.int (nI h)), some (.int (nI a)), some (.int y), some (.int (nI M.R))] [] (ox_up (ox_up (ox_up σ 22 M.R (nI h)) 23 M.R (nI a)) 24 M.R (nI b)) (fun o σ' => o = .inl (some (.int (nI M.R))) ∧ oCo σ' (oMk M h a b) ∧ oFC2 σ σ') := by
    refine oT_N 7 rfl (oT_Ret rfl rfl rfl ⟨rfl, ⟨oMk_ok hok hR hh ha hb, ?_, ?_, fun r q1 q2 => ?_, fun i hi => ?_⟩, fun o o1 o2 => ?_⟩)
    · rw [ox_up_at, if_pos rfl, ox_up_ne (by decide), ox_up_ne (by decide), ox_up_ne (by decide), g1, ox_inc]
      rfl
    · rw [ox_up_at, if_neg (by decide), ox_up_ne (by decide), ox_up_ne (by decide), ox_up_ne (by decide)]
      exact g2
    · have q2' : r < M.R + 1 := q2
      show upd (σ 22) M.R (nI h) r = nI (if r = M.R then h else M.hw r) ∧ upd (σ 23) M.R (nI a) r = nI (if r = M.R then a else M.lf r) ∧ upd (σ 24) M.R (nI b) r = nI (if r = M.R then b else M.rt r)
      unfold upd
      by_cases q : r = M.R
      · rw [if_pos q, if_pos q, if_pos q, if_pos q, if_pos q, if_pos q]
        exact ⟨rfl, rfl, rfl⟩
      · rw [if_neg q, if_neg q, if_neg q, if_neg q, if_neg q, if_neg q]
        exact g3 r q1 (by omega)
    · exact g4 i hi
    · rw [ox_up_ne o1, ox_up_ne (by omega), ox_up_ne (by omega), ox_up_ne (by omega)]
  refine oT_N 1 rfl (oT_if1 (fun q => ?_) (fun q => ?_))
  · refine oT_N 1 rfl (oT_Is (o := 24) (n := nI M.R) (x := nI a) rfl ⟨rfl, by decide⟩ n40 ?_)
    rw [hc, ← hy2 (by omega)]
    rw [← hy2 (by omega)] at fin
    exact fin
  · refine oT_N 2 rfl (oT_Is (o := 24) (n := nI M.R) (x := y) rfl ⟨rfl, by decide⟩ n40 ?_)
    rw [hc]
    rw [← hy q] at fin
    exact fin
theorem ot_addRule {r : Nat} {y : Int32} (hm : oCo σ M) (hQ : M.Q < 8) (hr : r < M.R) (hy : y = nI r) : oT L k 21 0 [some (.ref 2), some (.int y)] [] σ (fun o σ' => o = .inl none ∧ oCo σ' (oMr M r) ∧ oFC2 σ σ') := by
  subst hy
  obtain ⟨hok, g1, g2, g3, g4⟩ := id hm
  refine oT_N 5 rfl (oT_Is (o := 25) (n := σ 2 1) (x := nI r) rfl ⟨rfl, by decide⟩ (by rw [g2]; exact ox_ix (N := 8) (by omega) (by decide)) ?_)
  rw [g2, nI_clamp (by omega)]
  refine oT_N 6 rfl (oT_Retv rfl rfl ⟨rfl, ⟨oMr_ok hok hQ hr, ?_, ?_, fun r q1 q2 => ?_, fun i hi => ?_⟩, fun o o1 o2 => ?_⟩)
  · rw [ox_up_at, if_neg (by decide), ox_up_ne (by decide)]
    exact g1
  · rw [ox_up_at, if_pos rfl, ox_up_ne (by decide), g2, ox_inc]
    rfl
  · exact g3 r q1 q2
  · have hi' : i < M.Q + 1 := hi
    show upd (σ 25) M.Q (nI r) i = nI (if i = M.Q then r else M.rl i)
    unfold upd
    by_cases q : i = M.Q
    · rw [if_pos q, if_pos q]
    · rw [if_neg q, if_neg q]
      exact g4 i (by omega)
  · rw [ox_up_ne o1, ox_up_ne (by omega)]
theorem ot_addOrderRule {r f : Nat} (hm : oCo σ M) (hR : M.R < 38) (hQ : M.Q < 8) (hr : r < M.R) (hf : f < M.R) (hk : 3 ≤ k) (hk9 : k ≤ 9) :
    oT L k 22 0 [some (.ref 2), some (.int (nI r)), some (.int (nI f)), none] [] σ (fun o σ' => o = .inl none ∧ oCo σ' (oMd3 M r f) ∧ oFC2 σ σ') := by
  obtain ⟨k, rfl⟩ : ∃ k', k = k' + 1 := ⟨k - 1, by omega⟩
  have h12 := hm.1.1
  refine oT_N 4 rfl (oT_V rfl rfl rfl rfl (by omega) (by omega) (ot_addRelation (h := 0) (a := r) (b := f) hm (by omega) (by omega) hr hf (fun _ => rfl) (fun q => by omega) (by omega) (by omega)) (fun x σ2 h => by cases h.1) (fun v σ1 hv => ?_))
  obtain ⟨hv, m1, f1⟩ := hv
  cases hv
  refine oT_N 5 rfl (oT_V rfl rfl rfl rfl (by omega) (by omega) (ot_addRelation (h := 0) (a := M.R) (b := 2) m1 (by show M.R + 1 < 40; omega) (by omega) (by show M.R < M.R + 1; omega) (by show 2 < M.R + 1; omega) (fun _ => rfl) (fun q => by omega) (by omega) (by omega)) (fun x σ2 h => by cases h.1) (fun v σ2 hv => ?_))
  obtain ⟨hv, m2, f2⟩ := hv
  cases hv
  refine oT_N 6 rfl (oT_V rfl rfl rfl rfl (by omega) (by omega) (ot_addRelation (h := 0) (a := M.R + 1) (b := 3) m2 (by show M.R + 1 + 1 < 40; omega) (by omega) (by show M.R + 1 < M.R + 1 + 1; omega) (by show 3 < M.R + 1 + 1; omega) (fun _ => rfl) (fun q => by omega) (by omega) (by omega)) (fun x σ2 h => by cases h.1) (fun v σ3 hv => ?_))
  obtain ⟨hv, m3, f3⟩ := hv
  cases hv
  refine oT_V rfl rfl rfl rfl (by omega) (by omega) (ot_addRule (r := M.R + 2) m3 hQ (by show M.R + 2 < M.R + 1 + 1 + 1; omega) rfl) (fun x σ2 h => by cases h.1) (fun v σ4 hv => ?_)
  obtain ⟨hv, m4, f4⟩ := hv
  cases hv
  exact oT_Retv rfl rfl ⟨rfl, m4, (f1.tr f2).tr (f3.tr f4)⟩
/-- what the given orders 3 to 5 keep -/
def oKp (M : oMo) (g : Nat) : oMo := match g with
  | 3 => oMk (oMk M 2 0 10) 0 15 7
  | 4 => oMk (oMk (oMk M 2 0 10) 2 15 11) 0 16 7
  | _ => oMk M 0 6 7
theorem ot_addKept {g : Nat} (hm : oCo σ M) (hR : M.R = 15) (hg : 3 ≤ g) (hg5 : g ≤ 5) (hk : 3 ≤ k) (hk9 : k ≤ 9) : oT L k 23 0 [some (.ref 2), some (.int (nI g)), none] [] σ (fun o σ' => o = .inl (some (.int (nI ((oKp M g).R - 1)))) ∧ oCo σ' (oKp M g) ∧ oFC2 σ σ') := by
  obtain ⟨k, rfl⟩ : ∃ k', k = k' + 1 := ⟨k - 1, by omega⟩
  refine oT_N 5 rfl (oT_lt 4 g rfl rfl (by decide) (by omega) (fun q => ?_) (fun q => ?_))
  · obtain rfl : g = 5 := by omega
    refine oT_N 3 rfl (oT_eq 5 4 rfl rfl (by decide) (by decide) (fun q => by omega) (fun _ => ?_))
    refine oT_N 4 rfl (oT_V rfl rfl rfl rfl (by omega) (by omega) (ot_addRelation (h := 0) (a := 6) (b := 7) hm (by omega) (by omega) (by omega) (by omega) (fun _ => rfl) (fun q => by omega) (by omega) (by omega)) (fun x σ2 h => by cases h.1) (fun v σ1 hv => ?_))
    obtain ⟨hv, m1, f1⟩ := hv
    cases hv
    exact oT_Ret rfl rfl rfl ⟨rfl, m1, f1⟩
  · refine oT_N 4 rfl (oT_V rfl rfl rfl rfl (by omega) (by omega) (ot_addRelation (h := 2) (a := 0) (b := 10) hm (by omega) (by omega) (by omega) (by omega) (fun _ => rfl) (fun q => by omega) (by omega) (by omega)) (fun x σ2 h => by cases h.1) (fun v σ1 hv => ?_))
    obtain ⟨hv, m1, f1⟩ := hv
    cases hv
    have r1 : (oMk M 2 0 10).R = 16 := by show M.R + 1 = 16; omega
    rw [hR]
    refine oT_N 4 rfl (oT_eq g 4 rfl rfl (by omega) (by decide) (fun q4 => ?_) (fun q4 => ?_))
    · subst q4
      refine oT_N 4 rfl (oT_V rfl rfl rfl rfl (by omega) (by omega) (ot_addRelation (h := 2) (a := 15) (b := 11) m1 (by omega) (by omega) (by omega) (by omega) (fun _ => rfl) (fun q => by omega) (by omega) (by omega)) (fun x σ2 h => by cases h.1) (fun v σ2 hv => ?_))
      obtain ⟨hv, m2, f2⟩ := hv
      cases hv
      have r2 : (oMk (oMk M 2 0 10) 2 15 11).R = 17 := by show M.R + 1 + 1 = 17; omega
      rw [r1]
      refine oT_N 5 rfl (oT_V rfl rfl rfl rfl (by omega) (by omega) (ot_addRelation (h := 0) (a := 16) (b := 7) m2 (by omega) (by omega) (by omega) (by omega) (fun _ => rfl) (fun q => by omega) (by omega) (by omega)) (fun x σ2 h => by cases h.1) (fun v σ3 hv => ?_))
      obtain ⟨hv, m3, f3⟩ := hv
      cases hv
      exact oT_Ret rfl rfl rfl ⟨rfl, m3, (f1.tr f2).tr f3⟩
    · obtain rfl : g = 3 := by omega
      refine oT_N 4 rfl (oT_V rfl rfl rfl rfl (by omega) (by omega) (ot_addRelation (h := 0) (a := 15) (b := 7) m1 (by omega) (by omega) (by omega) (by omega) (fun _ => rfl) (fun q => by omega) (by omega) (by omega)) (fun x σ2 h => by cases h.1) (fun v σ3 hv => ?_))
      obtain ⟨hv, m3, f3⟩ := hv
      cases hv
      exact oT_Ret rfl rfl rfl ⟨rfl, m3, f1.tr f3⟩
theorem ot_mforget : oT L k 19 0 [some (.ref 2)] [] σ (fun o σ' => o = .inl none ∧ σ' = ox_up (ox_up σ 2 0 (nI 12)) 2 1 0) :=
  oT_N 6 rfl (oT_Retv rfl rfl ⟨rfl, rfl⟩)
set_option maxHeartbeats 1000000 in
theorem ot_given {r : Int32} (hm : oCo σ M) (hk : 6 ≤ k) (hk9 : k ≤ 9) : oT L k 37 0 [some (.ref 0), some (.int r)] [] σ (fun o σ' => (∀ r', r = nI r' → r' ≤ 5 → o = .inl (some (.int (nI (oGn M r').R))) ∧ oCo σ' (oGn M r') ∧ oFC2 σ σ') ∧ (¬ (0 ≤ r ∧ r ≤ 5) → o = .inr 1 ∧ σ' = σ)) := by
  obtain ⟨k, rfl⟩ : ∃ k', k = k' + 1 := ⟨k - 1, by omega⟩
  generalize hPo : (fun (o : ox_O) (σ' : ox_S) => (∀ r', r = nI r' → r' ≤ 5 → o = .inl (some (.int (nI (oGn M r').R))) ∧ oCo σ' (oGn M r') ∧ oFC2 σ σ') ∧ (¬ (0 ≤ r ∧ r ≤ 5) → o = .inr 1 ∧ σ' = σ)) = Post
  have bad : ¬ (0 ≤ r ∧ r ≤ 5) → Post (.inr 1) σ := fun hb => by
    subst hPo
    exact ⟨fun r' e1 e2 => absurd ⟨by rw [e1]; exact nI_pos' (by omega), by rw [e1]; exact nI_le (b := 5) e2 (by decide)⟩ hb, fun _ => ⟨rfl, rfl⟩⟩
  refine oT_N 2 rfl (oT_If (fun (q : r < 0) => oT_T rfl (by decide) (by omega) (by omega) (bad (fun g => Int32.not_le.mpr q g.1))) (fun (q1 : ¬ r < 0) => ?_))
  refine oT_N 3 rfl (oT_If (fun (q2 : r ≤ 5) => ?_) (fun (q : ¬ r ≤ 5) => oT_T rfl (by decide) (by omega) (by omega) (bad (fun g => q g.2))))
  obtain ⟨e0, e1⟩ := ox_nat (Int32.not_lt.mp q1)
  generalize r.toNatClampNeg = g at e0 e1
  subst e0
  have hg5 : g ≤ 5 := (nI_leI (b := 5) e1 (by decide)).mp q2
  have hP : ∀ (τ : ox_S) (M' : oMo) (x : Int32), oCo τ M' → M' = oGn M g → oFC2 σ τ → x = τ 2 0 → Post (.inl (some (.int x))) τ := fun τ M' x a1 a2 a3 a5 => by
    subst hPo
    refine ⟨fun r' e2 e3 => ?_, fun q => absurd ⟨Int32.not_lt.mp q1, q2⟩ q⟩
    have e4 : r' = g := ((nI_eq (by omega) (by omega)).mp e2).symm
    subst e4 a2
    exact ⟨by rw [a5, a1.2.1], a1, a3⟩
  refine oT_N 2 rfl (oT_V rfl rfl rfl rfl (by omega) (by omega) ot_mforget (fun x σ2 h => by cases h.1) (fun v σ2 hv => ?_))
  obtain ⟨hv, rfl⟩ := hv
  cases hv
  show oT L (k + 1) 37 26 [some (.ref 0), some (.int (nI g))] [] (ox_up (ox_up σ 2 0 (nI 12)) 2 1 0) Post
  have m0 : oCo (ox_up (ox_up σ 2 0 (nI 12)) 2 1 0) (oM0 M) := ⟨oM0_ok, rfl, rfl, fun r q1 q2 => absurd (show r < 12 from q2) (by omega), fun i hi => absurd (show i < 0 from hi) (by omega)⟩
  have f0 : oFC2 σ (ox_up (ox_up σ 2 0 (nI 12)) 2 1 0) := fun o o1 o2 => by rw [ox_up_ne o1, ox_up_ne o1]
  -- from the end of the first rule
  have c56 : ∀ (M1 : oMo) (τ : ox_S), oCo τ M1 → oFC2 σ τ → (g < 3 → M1 = oGn M g) → (3 ≤ g → M1 = oMd3 (oM0 M) 5 1) → oT L (k + 1) 37 56 [some (.ref 0), some (.int (nI g))] [] τ Post := fun M1 τ a1 a2 a4 a5 => by
    refine oT_N 3 rfl (oT_lt g 3 rfl rfl (by omega) (by decide) (fun q3 => ?_) (fun q3 => ?_))
    · exact oT_N 3 rfl (oT_Ret rfl rfl rfl (hP τ _ _ a1 (a4 q3) a2 rfl))
    · have b0 := a5 q3
      subst b0
      refine oT_N 5 rfl (oT_V rfl rfl rfl rfl (by omega) (by omega) (ot_addKept (g := g) a1 rfl q3 hg5 (by omega) (by omega)) (fun x σ2 h => by cases h.1) (fun v σ1 hv => ?_))
      obtain ⟨hv, m1, f1⟩ := hv
      cases hv
      have hcase : (oKp (oMd3 (oM0 M) 5 1) g).R ≤ 18 ∧ 16 ≤ (oKp (oMd3 (oM0 M) 5 1) g).R ∧ (oKp (oMd3 (oM0 M) 5 1) g).Q = 1 ∧ oMd3 (oKp (oMd3 (oM0 M) 5 1) g) ((oKp (oMd3 (oM0 M) 5 1) g).R - 1) 4 = oGn M g := by
        rcases Nat.lt_or_ge g 4 with q | q
        · obtain rfl : g = 3 := by omega
          exact ⟨show (17 : Nat) ≤ 18 by omega, show (16 : Nat) ≤ 17 by omega, rfl, rfl⟩
        · rcases Nat.lt_or_ge g 5 with q | q
          · obtain rfl : g = 4 := by omega
            exact ⟨show (18 : Nat) ≤ 18 by omega, show (16 : Nat) ≤ 18 by omega, rfl, rfl⟩
          · obtain rfl : g = 5 := by omega
            exact ⟨show (16 : Nat) ≤ 18 by omega, show (16 : Nat) ≤ 16 by omega, rfl, rfl⟩
      obtain ⟨c1, c2, c3, c4⟩ := hcase
      refine oT_N 1 rfl (oT_V rfl rfl rfl rfl (by omega) (by omega) (ot_addOrderRule (r := (oKp (oMd3 (oM0 M) 5 1) g).R - 1) (f := 4) m1 (by omega) (by omega) (by omega) (by omega) (by omega) (by omega)) (fun x σ2 h => by cases h.1) (fun v σ3 hv => ?_))
      obtain ⟨hv, m2, f2⟩ := hv
      cases hv
      exact oT_N 3 rfl (oT_Ret rfl rfl rfl (hP σ3 _ _ m2 c4 ((a2.tr f1).tr f2) rfl))
  refine oT_N 3 rfl (oT_eq g 2 rfl rfl (by omega) (by decide) (fun q => ?_) (fun q => ?_))
  · subst q
    refine oT_N 4 rfl (oT_V rfl rfl rfl rfl (by omega) (by omega) (ot_addOrderRule (r := 0) (f := 1) m0 (by show 12 < 38; omega) (by show 0 < 8; omega) (by show 0 < 12; omega) (by show 1 < 12; omega) (by omega) (by omega)) (fun x σ2 h => by cases h.1) (fun v σ1 hv => ?_))
    obtain ⟨hv, m1, f1⟩ := hv
    cases hv
    exact oT_N 1 rfl (c56 _ σ1 m1 (fun o o1 o2 => by rw [f1 o o1 o2, f0 o o1 o2]) (fun _ => rfl) (fun q => by omega))
  · refine oT_N 2 rfl (oT_eq g 0 rfl rfl (by omega) (by decide) (fun q0 => ?_) (fun q0 => ?_))
    · subst q0
      exact c56 _ _ m0 f0 (fun _ => rfl) (fun q => by omega)
    · refine oT_N 4 rfl (oT_V rfl rfl rfl rfl (by omega) (by omega) (ot_addOrderRule (r := 5) (f := 1) m0 (by show 12 < 38; omega) (by show 0 < 8; omega) (by show 5 < 12; omega) (by show 1 < 12; omega) (by omega) (by omega)) (fun x σ2 h => by cases h.1) (fun v σ1 hv => ?_))
      obtain ⟨hv, m1, f1⟩ := hv
      cases hv
      exact c56 _ σ1 m1 (f0.tr f1) (fun q3 => by
        obtain rfl : g = 1 := by omega
        rfl) (fun _ => rfl)
theorem ot_rule {r : Int32} (hm : oCo σ M) (hk : 6 ≤ k) (hk9 : k ≤ 9) : oT L k 36 0 [some (.ref 0), some (.int r)] [] σ (fun o σ' => (∀ r', r = nI r' → r' < M.R → M.Q < 8 → o = .inl (some (.int (nI (M.Q + 1)))) ∧ oCo σ' (oMr M r') ∧ oFC2 σ σ') ∧ ((0 ≤ r ∧ r < nI M.R) → M.Q = 8 → o = .inr 0 ∧ σ' = σ) ∧ (¬ (0 ≤ r ∧ r < nI M.R) → o = .inr 1 ∧ σ' = σ)) := by
  obtain ⟨k, rfl⟩ : ∃ k', k = k' + 1 := ⟨k - 1, by omega⟩
  have hR := hm.1.2.1
  have hQ := hm.1.2.2.1
  refine oT_N 4 rfl (oT_S rfl rfl rfl (by omega) (by omega) ot_isBelow' (fun x σ2 h => by cases h.1) (fun v σ2 hv => ?_))
  obtain ⟨hv, rfl⟩ := hv
  cases hv
  refine oT_N 1 rfl (oT_if1 (fun (q : ¬ (0 ≤ r ∧ r < σ2 2 0)) => ?_) (fun (q : 0 ≤ r ∧ r < σ2 2 0) => ?_))
  all_goals rw [hm.2.1] at q
  · exact oT_T rfl (by decide) (by omega) (by omega) ⟨fun r' e1 e2 => absurd ⟨by rw [e1]; exact nI_pos' (by omega), by rw [e1]; exact nI_lt e2 (by omega)⟩ q, fun e => absurd e q, fun _ => ⟨rfl, rfl⟩⟩
  · refine oT_N 5 rfl (oT_lt M.Q 8 hm.2.2.1 rfl (by omega) (by decide) (fun q8 => ?_) (fun q8 => ?_))
    · obtain ⟨e1, e2⟩ := ox_natlt q.1 q.2 (by omega)
      refine oT_N 3 rfl (oT_V rfl rfl rfl rfl (by omega) (by omega) (ot_addRule hm q8 e2 e1) (fun x σ2 h => by cases h.1) (fun v σ1 hv => ?_))
      obtain ⟨hv, m1, f1⟩ := hv
      cases hv
      refine oT_N 3 rfl (oT_Ret rfl rfl rfl ⟨fun r' e3 e4 _ => ?_, fun _ e => by omega, fun e => absurd q e⟩)
      have e5 : r.toNatClampNeg = r' := (nI_eq (by omega) (by omega)).mp (by rw [← e1, e3])
      rw [e5] at m1
      exact ⟨ox_o m1.2.2.1, m1, f1⟩
    · exact oT_T rfl (by decide) (by omega) (by omega) ⟨fun _ _ _ e => by omega, fun _ _ => ⟨rfl, rfl⟩, fun e => absurd q e⟩
end OYA
