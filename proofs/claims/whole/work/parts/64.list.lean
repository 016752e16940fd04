/-- numbers by their digits -/
def oNb (c d : Nat → Nat) : Nat → Nat
  | 0 => 0
  | i + 1 => oNb c d i * c i + d i
def oPi (c : Nat → Nat) : Nat → Nat
  | 0 => 1
  | i + 1 => oPi c i * c i
theorem oNb_lt {c d : Nat → Nat} : ∀ i, (∀ j, j < i → d j < c j) → oNb c d i < oPi c i
  | 0, _ => Nat.one_pos
  | i + 1, h => by
    have ih := oNb_lt (c := c) (d := d) i (fun j hj => h j (by omega))
    have hd := h i (by omega)
    simp only [oNb, oPi]
    have h1 : (oNb c d i + 1) * c i ≤ oPi c i * c i := Nat.mul_le_mul_right _ ih
    rw [Nat.add_mul] at h1
    omega
theorem oNb_dm {c d : Nat → Nat} {i : Nat} (h : d i < c i) : oNb c d (i + 1) / c i = oNb c d i ∧ oNb c d (i + 1) % c i = d i := by
  have hc : 0 < c i := by omega
  simp only [oNb]
  constructor
  · rw [Nat.mul_comm, Nat.mul_add_div hc, Nat.div_eq_of_lt h, Nat.add_zero]
  · rw [Nat.mul_comm, Nat.mul_add_mod, Nat.mod_eq_of_lt h]
theorem oNb_inj {c d d' : Nat → Nat} : ∀ i, (∀ j, j < i → d j < c j) → (∀ j, j < i → d' j < c j) → oNb c d i = oNb c d' i → ∀ j, j < i → d j = d' j
  | 0, _, _, _, j, hj => absurd hj (Nat.not_lt_zero j)
  | i + 1, h, h', e, j, hj => by
    obtain ⟨a1, a2⟩ := oNb_dm (h i (by omega))
    obtain ⟨b1, b2⟩ := oNb_dm (h' i (by omega))
    rcases Nat.lt_or_ge j i with q | q
    · exact oNb_inj i (fun j hj => h j (by omega)) (fun j hj => h' j (by omega)) (by rw [← a1, ← b1, e]) j q
    · obtain rfl : j = i := by omega
      rw [← a2, ← b2, e]
theorem oNb_ext {c d d' : Nat → Nat} : ∀ i, (∀ j, j < i → d j = d' j) → oNb c d i = oNb c d' i
  | 0, _ => rfl
  | i + 1, h => by
    simp only [oNb]
    rw [oNb_ext i (fun j hj => h j (by omega)), h i (by omega)]
theorem oNb_lx {c d d' : Nat → Nat} : ∀ R, (∀ j, j < R → d j < c j) → (∀ j, j < R → d' j < c j) → oNb c d R < oNb c d' R → ∃ i, i < R ∧ d i < d' i ∧ ∀ j, j < i → d j = d' j
  | 0, _, _, e => absurd e (Nat.lt_irrefl 0)
  | R + 1, h, h', e => by
    rcases Nat.lt_trichotomy (oNb c d R) (oNb c d' R) with q | q | q
    · obtain ⟨i, h1, h2, h3⟩ := oNb_lx R (fun j hj => h j (by omega)) (fun j hj => h' j (by omega)) q
      exact ⟨i, by omega, h2, h3⟩
    · refine ⟨R, by omega, ?_, oNb_inj R (fun j hj => h j (by omega)) (fun j hj => h' j (by omega)) q⟩
      simp only [oNb] at e
      rw [q] at e
      omega
    · have h1 := h' R (by omega)
      simp only [oNb] at e
      have h2 : (oNb c d' R + 1) * c R ≤ oNb c d R * c R := Nat.mul_le_mul_right _ q
      rw [Nat.add_mul] at h2
      omega
theorem oVc_wv {P : oPr} {x i : Nat} : oVc P x i = oWv P (P.pl (oRd P i)) (oPk P x i) := rfl
theorem oNw_pos (P : oPr) : ∀ p, 0 < oNw P p
  | 0 => Nat.one_pos
  | p + 1 => Nat.mul_pos (oNw_pos P p) (oFc_pos _)
/-- the digits of an execution's outcome -/
def oDi (P : oPr) (K : Nat → Nat → Nat) (x i : Nat) : Nat := K (P.pl (oRd P i)) (oPk P x i)
def oRx (P : oPr) (C : Nat → Nat) (i : Nat) : Nat := C (P.pl (oRd P i))
def oNn (P : oPr) (C : Nat → Nat) (K : Nat → Nat → Nat) (x : Nat) : Nat := oNb (oRx P C) (oDi P K x) (ocR P P.n)
/-- how often a number comes -/
def oTt (P : oPr) (al : Nat → Bool) (C : Nat → Nat) (K : Nat → Nat → Nat) (X v : Nat) : Nat := oCn (fun x => al x && decide (oNn P C K x = v)) X
/-- the class's list after X executions -/
def oLc (σ : ox_S) (P : oPr) (al : Nat → Bool) (C : Nat → Nat) (K : Nat → Nat → Nat) (X : Nat) : Prop :=
  σ 3 0 = nI (oNx P) ∧ σ 3 1 = nI (oCn al X) ∧ σ 3 2 = 0 ∧ σ 3 3 = nI (ocR P P.n) ∧ (∀ i, i < ocR P P.n → σ 31 i = nI (P.pl (oRd P i))) ∧ (∀ p, p < 4 → oPv σ P p (C p) (K p)) ∧ ∀ v, v < oNx P → σ 28 v = nI (oTt P al C K X v) ∧ (0 < oTt P al C K X v → ∃ f, σ 29 v = nI f ∧ f < X ∧ al f = true ∧ oNn P C K f = v ∧ ∀ x, x < f → ¬ (al x = true ∧ oNn P C K x = v))
theorem oPv_ext {σ τ : ox_S} {P : oPr} {p c : Nat} {rk : Nat → Nat} (h : oPv σ P p c rk) (h1 : τ 32 p = σ 32 p) (h2 : τ (34 + p) = σ (34 + p)) (h3 : τ (39 + p) = σ (39 + p)) : oPv τ P p c rk := by
  obtain ⟨a1, a2, a3, a4, a5⟩ := h
  refine ⟨a1, a2, by rw [h1]; exact a3, by rw [h2]; exact a4, ?_⟩
  rw [h2, h3]
  exact a5
theorem oDi_lt {P : oPr} {σ : ox_S} {C : Nat → Nat} {K : Nat → Nat → Nat} (hP : P.ok) (h : ∀ p, p < 4 → oPv σ P p (C p) (K p)) {x i : Nat} (hi : i < ocR P P.n) : oDi P K x i < oRx P C i ∧ σ (34 + P.pl (oRd P i)) (oDi P K x i) = oVc P x i := by
  obtain ⟨r1, r2, -⟩ := oRd_sp hi
  obtain ⟨-, -, -, -, g⟩ := h _ ((hP.2.2 _ r1).2.2 (by omega))
  obtain ⟨g1, g2, -⟩ := g (oPk P x i) (by have := oPk_lt (P := P) (x := x) (i := i); omega)
  exact ⟨g1, g2⟩
theorem oNn_lt {P : oPr} {σ : ox_S} {C : Nat → Nat} {K : Nat → Nat → Nat} (hP : P.ok) (h : ∀ p, p < 4 → oPv σ P p (C p) (K p)) (x : Nat) : oNn P C K x < oNx P := by
  have h1 := oNb_lt (c := oRx P C) (d := oDi P K x) (ocR P P.n) (fun j hj => (oDi_lt hP h hj).1)
  have h2 : ∀ i, i ≤ ocR P P.n → oPi (oRx P C) i ≤ oNr P i := fun i => by
    induction i with
    | zero => exact fun _ => Nat.le_refl _
    | succ i ih =>
      intro hi
      obtain ⟨r1, r2, -⟩ := oRd_sp (P := P) (i := i) (by omega)
      obtain ⟨-, g, -⟩ := h _ ((hP.2.2 _ r1).2.2 (by omega))
      exact Nat.mul_le_mul (ih (by omega)) g
  have h3 : oNr P (ocR P P.n) ≤ oNx P := Nat.le_mul_of_pos_right _ (oNw_pos P 4)
  have := h2 _ (Nat.le_refl _)
  exact Nat.lt_of_lt_of_le h1 (Nat.le_trans this h3)
theorem oLc_skip {σ : ox_S} {P : oPr} {al : Nat → Bool} {C : Nat → Nat} {K : Nat → Nat → Nat} {X : Nat} (h : oLc σ P al C K X) (ha : al X = false) : oLc σ P al C K (X + 1) := by
  obtain ⟨h1, h2, h3, h4, h5, h6, h7⟩ := h
  have hT : ∀ v, oTt P al C K (X + 1) v = oTt P al C K X v := fun v => by unfold oTt; simp [oCn, ha]
  refine ⟨h1, by rw [h2]; simp [oCn, ha], h3, h4, h5, h6, fun v hv => ?_⟩
  rw [hT]
  obtain ⟨a1, a2⟩ := h7 v hv
  refine ⟨a1, fun q => ?_⟩
  obtain ⟨f, f1, f2, f3⟩ := a2 q
  exact ⟨f, f1, by omega, f3⟩
theorem oLc_ext {σ τ : ox_S} {P : oPr} {al : Nat → Bool} {C : Nat → Nat} {K : Nat → Nat → Nat} {X : Nat} (h : oLc σ P al C K X) (h3 : τ 3 = σ 3) (ho : ∀ o, 28 ≤ o → o ≤ 42 → τ o = σ o) : oLc τ P al C K X := by
  obtain ⟨a1, a2, a3, a4, a5, a6, a7⟩ := h
  refine ⟨by rw [h3]; exact a1, by rw [h3]; exact a2, by rw [h3]; exact a3, by rw [h3]; exact a4, by rw [ho 31 (by decide) (by decide)]; exact a5, fun p hp => oPv_ext (a6 p hp) (by rw [ho 32 (by decide) (by decide)]) (ho _ (by omega) (by omega)) (ho _ (by omega) (by omega)), ?_⟩
  rw [ho 28 (by decide) (by decide), ho 29 (by decide) (by decide)]
  exact a7
section OYK
variable {L k : Nat} {σ : ox_S} {P : oPr}
set_option maxHeartbeats 1000000 in
theorem ot_begin {al : Nat → Bool} (h : oC σ P) (hN : oNx P ≤ 5000) (hk : 4 ≤ k) (hk9 : k ≤ 9) : oT L k 11 0 [some (.ref 3), some (.ref 1), some (.int (nI (oNx P))), none] [] σ (fun o σ' => o = .inl none ∧ (∀ o, o ≠ 3 → o < 28 ∨ 42 < o → σ' o = σ o) ∧ ∃ C K, oLc σ' P al C K 0) := by
  obtain ⟨k, rfl⟩ : ∃ k', k = k' + 1 := ⟨k - 1, by omega⟩
  obtain ⟨⟨hT, hn, hok⟩, a2, a3, a4, a5, a6, a7, a8, a9⟩ := id h
  have hR := ocR_le P P.n
  -- the totals
  have tots : ∀ (d v : Nat) (τ : ox_S) (C : Nat → Nat) (K : Nat → Nat → Nat), v + d = oNx P → (∀ o, o ≠ 3 → o < 28 ∨ 42 < o → τ o = σ o) → τ 3 0 = nI (oNx P) → τ 3 1 = 0 → τ 3 2 = 0 → τ 3 3 = nI (ocR P P.n) → (∀ i, i < ocR P P.n → τ 31 i = nI (P.pl (oRd P i))) → (∀ p, p < 4 → oPv τ P p (C p) (K p)) → (∀ v', v' < v → τ 28 v' = 0) → oT L (k + 1) 11 71 [some (.ref 3), some (.ref 1), some (.int (nI (oNx P))), some (.int (nI v))] [] τ (fun o σ' => o = .inl none ∧ (∀ o, o ≠ 3 → o < 28 ∨ 42 < o → σ' o = σ o) ∧ ∃ C K, oLc σ' P al C K 0) := by
    intro d
    induction d with
    | zero =>
      intro v τ C K hv t1 t2 t3 t4 t5 t6 t7 t8
      refine oT_N 4 rfl (oT_le (oNx P) v t2 rfl (by omega) (by omega) (fun _ => ?_) (fun q => by omega))
      exact oT_Retv rfl rfl ⟨rfl, t1, C, K, t2, t3, t4, t5, t6, t7, fun v' hv' => ⟨t8 v' (by omega), fun q => absurd (show 0 < 0 from q) (by omega)⟩⟩
    | succ d ih =>
      intro v τ C K hv t1 t2 t3 t4 t5 t6 t7 t8
      refine oT_N 4 rfl (oT_le (oNx P) v t2 rfl (by omega) (by omega) (fun q => by omega) (fun _ => ?_))
      refine oT_N 4 rfl (oT_Is (o := 28) (n := nI v) (x := 0) rfl ⟨rfl, by decide⟩ (ox_ix (N := 5000) (by omega) (by decide)) ?_)
      rw [nI_clamp (by omega)]
      have e := ih (v + 1) (ox_up τ 28 v 0) C K (by omega) (fun o q1 q2 => by rw [ox_up_ne (by omega)]; exact t1 o q1 q2) (by rw [ox_up_ne (by decide)]; exact t2) (by rw [ox_up_ne (by decide)]; exact t3) (by rw [ox_up_ne (by decide)]; exact t4) (by rw [ox_up_ne (by decide)]; exact t5) (fun i hi => by rw [ox_up_ne (by decide)]; exact t6 i hi) (fun p hp => oPv_ext (t7 p hp) (by rw [ox_up_ne (by decide)]) (ox_up_ne (by omega)) (ox_up_ne (by omega))) (fun v' hv' => by
        rw [ox_up_at]
        by_cases q : v' = v
        · rw [if_pos q]
        · rw [if_neg q]; exact t8 v' (by omega))
      rw [← ox_inc v] at e
      exact oT_N 2 rfl e
  -- the places
  have places : ∀ (d p : Nat) (τ : ox_S) (C : Nat → Nat) (K : Nat → Nat → Nat), p + d = 4 → (∀ o, o ≠ 3 → o < 28 ∨ 42 < o → τ o = σ o) → τ 3 0 = nI (oNx P) → τ 3 1 = 0 → τ 3 2 = 0 → τ 3 3 = nI (ocR P P.n) → (∀ i, i < ocR P P.n → τ 31 i = nI (P.pl (oRd P i))) → (∀ p', p' < p → oPv τ P p' (C p') (K p')) → oT L (k + 1) 11 52 [some (.ref 3), some (.ref 1), some (.int (nI (oNx P))), some (.int (nI p))] [] τ (fun o σ' => o = .inl none ∧ (∀ o, o ≠ 3 → o < 28 ∨ 42 < o → σ' o = σ o) ∧ ∃ C K, oLc σ' P al C K 0) := by
    intro d
    induction d with
    | zero =>
      intro p τ C K hp t1 t2 t3 t4 t5 t6 t7
      refine oT_N 3 rfl (oT_le 4 p rfl rfl (by decide) (by omega) (fun _ => ?_) (fun q => by omega))
      exact oT_N 2 rfl (tots (oNx P) 0 τ C K (by omega) t1 t2 t3 t4 t5 t6 (fun p' hp' => t7 p' (by omega)) (fun v' hv' => by omega))
    | succ d ih =>
      intro p τ C K hp t1 t2 t3 t4 t5 t6 t7
      have hC : oC τ P := oC_ext h (t1 1 (by decide) (by decide)) (fun o q1 q2 => t1 o (by omega) (by omega))
      refine oT_N 3 rfl (oT_le 4 p rfl rfl (by decide) (by omega) (fun q => by omega) (fun _ => ?_))
      refine oT_N 3 rfl (oT_V rfl rfl rfl rfl (by omega) (by omega) (ot_rankValues hC (show p < 4 by omega) (by omega) (by omega)) (fun x σ2 h => by cases h.1) (fun v σ2 hv => ?_))
      obtain ⟨hv, v1, v2, c, rk, v3⟩ := hv
      cases hv
      have e := ih (p + 1) σ2 (fun p' => if p' = p then c else C p') (fun p' => if p' = p then rk else K p') (by omega) (fun o q1 q2 => by rw [v1 o (by omega) (by omega) (by omega)]; exact t1 o q1 q2) (by rw [v1 3 (by omega) (by omega) (by omega)]; exact t2) (by rw [v1 3 (by omega) (by omega) (by omega)]; exact t3) (by rw [v1 3 (by omega) (by omega) (by omega)]; exact t4) (by rw [v1 3 (by omega) (by omega) (by omega)]; exact t5) (fun i hi => by rw [v1 31 (by omega) (by omega) (by omega)]; exact t6 i hi) (fun p' hp' => by
        by_cases q : p' = p
        · rw [if_pos q, if_pos q, q]; exact v3
        · rw [if_neg q, if_neg q]
          exact oPv_ext (t7 p' (by omega)) (v2 p' q) (v1 _ (by omega) (by omega) (by omega)) (v1 _ (by omega) (by omega) (by omega)))
      rw [← ox_inc p] at e
      exact oT_N 2 rfl e
  -- the reads
  have reads : ∀ (d i : Nat) (τ : ox_S), i + d = ocR P P.n → (∀ o, o ≠ 3 → o < 28 ∨ 42 < o → τ o = σ o) → τ 3 0 = nI (oNx P) → τ 3 1 = 0 → τ 3 2 = 0 → τ 3 3 = nI (ocR P P.n) → (∀ i', i' < i → τ 31 i' = nI (P.pl (oRd P i'))) → oT L (k + 1) 11 25 [some (.ref 3), some (.ref 1), some (.int (nI (oNx P))), some (.int (nI i))] [] τ (fun o σ' => o = .inl none ∧ (∀ o, o ≠ 3 → o < 28 ∨ 42 < o → σ' o = σ o) ∧ ∃ C K, oLc σ' P al C K 0) := by
    intro d
    induction d with
    | zero =>
      intro i τ hi t1 t2 t3 t4 t5 t6
      refine oT_N 4 rfl (oT_le (ocR P P.n) i t5 rfl (by omega) (by omega) (fun _ => ?_) (fun q => by omega))
      exact oT_N 2 rfl (places 4 0 τ (fun _ => 0) (fun _ _ => 0) (by omega) t1 t2 t3 t4 t5 (fun i' hi' => t6 i' (by omega)) (fun p' hp' => by omega))
    | succ d ih =>
      intro i τ hi t1 t2 t3 t4 t5 t6
      have hC : oC τ P := oC_ext h (t1 1 (by decide) (by decide)) (fun o q1 q2 => t1 o (by omega) (by omega))
      refine oT_N 4 rfl (oT_le (ocR P P.n) i t5 rfl (by omega) (by omega) (fun q => by omega) (fun _ => ?_))
      refine oT_N 5 rfl (oT_V rfl rfl rfl rfl (by omega) (by omega) (ot_placeRead hC (show i < ocR P P.n by omega)) (fun x σ2 h => by cases h.1) (fun v σ2 hv => ?_))
      obtain ⟨hv, rfl⟩ := hv
      cases hv
      refine oT_Is (o := 31) (n := nI i) (x := nI (P.pl (oRd P i))) rfl ⟨rfl, by decide⟩ (ox_ix (N := 12) (by omega) (by decide)) ?_
      rw [nI_clamp (by omega)]
      have e := ih (i + 1) (ox_up σ2 31 i (nI (P.pl (oRd P i)))) (by omega) (fun o q1 q2 => by rw [ox_up_ne (by omega)]; exact t1 o q1 q2) (by rw [ox_up_ne (by decide)]; exact t2) (by rw [ox_up_ne (by decide)]; exact t3) (by rw [ox_up_ne (by decide)]; exact t4) (by rw [ox_up_ne (by decide)]; exact t5) (fun i' hi' => by
        rw [ox_up_at]
        by_cases q : i' = i
        · rw [if_pos q, q]
        · rw [if_neg q]; exact t6 i' (by omega))
      rw [← ox_inc i] at e
      exact oT_N 2 rfl e
  refine oT_N 15 rfl (reads (ocR P P.n) 0 _ (by omega) (fun o q1 _ => by rw [ox_up_ne q1, ox_up_ne q1, ox_up_ne q1, ox_up_ne q1]) rfl rfl rfl ?_ (fun i' hi' => by omega))
  exact a4
set_option maxHeartbeats 1000000 in
theorem ot_addAllowed {al : Nat → Bool} {C : Nat → Nat} {K : Nat → Nat → Nat} {X : Nat} (hP : P.ok) (hN : oNx P ≤ 5000) (hX : X < oNx P) (ha : al X = true) (h : oLc σ P al C K X) (hpk : ∀ i, i < ocR P P.n → σ 68 i = nI (oPk P X i)) : oT L k 12 0 [some (.ref 3), some (.int (nI X)), some (.ref 68), none, none, none] [] σ (fun o σ' => o = .inl none ∧ (∀ o, o ≠ 3 → o < 28 ∨ 42 < o → σ' o = σ o) ∧ oLc σ' P al C K (X + 1)) := by
  obtain ⟨h0, h1, h2, h3, h4, h5, h6⟩ := h
  have hR := Nat.le_trans (ocR_le P P.n) hP.2.1
  have hnl := oNn_lt hP h5 X
  refine oT_N 4 rfl ?_
  have loop : ∀ (d i : Nat) (l5 : Option Value), i + d = ocR P P.n → oT L k 12 5 [some (.ref 3), some (.int (nI X)), some (.ref 68), some (.int (nI (oNb (oRx P C) (oDi P K X) i))), some (.int (nI i)), l5] [] σ (fun o σ' => o = .inl none ∧ (∀ o, o ≠ 3 → o < 28 ∨ 42 < o → σ' o = σ o) ∧ oLc σ' P al C K (X + 1)) := by
    intro d
    induction d with
    | zero =>
      intro i l5 hi
      obtain rfl : i = ocR P P.n := by omega
      refine oT_N 4 rfl (oT_le (ocR P P.n) (ocR P P.n) h3 rfl (by omega) (by omega) (fun _ => ?_) (fun q => by omega))
      have en : oNb (oRx P C) (oDi P K X) (ocR P P.n) = oNn P C K X := rfl
      rw [en]
      generalize hv : oNn P C K X = v at hnl
      have nv : ¬ (nI v < 0 ∨ 5000 ≤ (nI v).toNatClampNeg) := ox_ix (by omega) (by decide)
      have cv : (nI v).toNatClampNeg = v := nI_clamp (by omega)
      obtain ⟨b1, b2⟩ := h6 v hnl
      have hTX : oTt P al C K X v ≤ X := oCn_le _ X
      have hTv : oTt P al C K (X + 1) v = oTt P al C K X v + 1 := by unfold oTt; simp [oCn, ha, hv]
      have hTo : ∀ v', v' ≠ v → oTt P al C K (X + 1) v' = oTt P al C K X v' := fun v' hne => by
        unfold oTt
        simp [oCn, hv]
        exact fun _ e => hne e.symm
      -- the end
      have fin : ∀ (τ : ox_S) (f : Nat), (∀ o, o ≠ 29 → τ o = σ o) → (∀ q, q ≠ v → τ 29 q = σ 29 q) → τ 29 v = nI f → f < X + 1 → al f = true → oNn P C K f = v → (∀ x, x < f → ¬ (al x = true ∧ oNn P C K x = v)) → oT L k 12 68 [some (.ref 3), some (.int (nI X)), some (.ref 68), some (.int (nI v)), some (.int (nI (ocR P P.n))), l5] [] τ (fun o σ' => o = .inl none ∧ (∀ o, o ≠ 3 → o < 28 ∨ 42 < o → σ' o = σ o) ∧ oLc σ' P al C K (X + 1)) := fun τ f t1 t2 t3 t4 t5 t6 t7 => by
        refine oT_N 4 rfl (oT_I (o := 28) (n := nI v) rfl (Or.inl ⟨rfl, by decide⟩) nv ?_)
        rw [cv, t1 28 (by decide), b1]
        refine oT_N 2 rfl (oT_Is (o := 28) (n := nI v) (x := nI (oTt P al C K X v) + Int32.ofInt 1) rfl ⟨rfl, by decide⟩ nv ?_)
        rw [cv, ox_inc]
        have u : ∀ o, o ≠ 3 → o ≠ 28 → o ≠ 29 → ox_up (ox_up τ 28 v (nI (oTt P al C K X v + 1))) 3 1 (ox_up τ 28 v (nI (oTt P al C K X v + 1)) 3 1 + Int32.ofInt 1) o = σ o := fun o q1 q2 q3 => by rw [ox_up_ne q1, ox_up_ne q2]; exact t1 o q3
        have u3 : ∀ q, q ≠ 1 → ox_up (ox_up τ 28 v (nI (oTt P al C K X v + 1))) 3 1 (ox_up τ 28 v (nI (oTt P al C K X v + 1)) 3 1 + Int32.ofInt 1) 3 q = σ 3 q := fun q hq => by rw [ox_up_at, if_neg hq, ox_up_ne (by decide), t1 3 (by decide)]
        refine oT_N 6 rfl (oT_Retv rfl rfl ⟨rfl, fun o q1 q2 => u o q1 (by omega) (by omega), ?_, ?_, ?_, ?_, fun i hi => ?_, fun p hp => ?_, fun v' hv' => ?_⟩)
        · rw [u3 0 (by decide)]; exact h0
        · rw [ox_up_at, if_pos rfl, ox_up_ne (by decide), t1 3 (by decide), h1, ox_inc]
          simp [oCn, ha]
        · rw [u3 2 (by decide)]; exact h2
        · rw [u3 3 (by decide)]; exact h3
        · rw [u 31 (by decide) (by decide) (by decide)]; exact h4 i hi
        · exact oPv_ext (h5 p hp) (by rw [u 32 (by decide) (by decide) (by decide)]) (u _ (by omega) (by omega) (by omega)) (u _ (by omega) (by omega) (by omega))
        · rw [ox_up_ne (show 28 ≠ 3 by decide), ox_up_at, ox_up_ne (show 29 ≠ 3 by decide), ox_up_ne (show 29 ≠ 28 by decide)]
          by_cases e : v' = v
          · rw [e, if_pos rfl, hTv]
            exact ⟨rfl, fun _ => ⟨f, t3, t4, t5, t6, t7⟩⟩
          · rw [if_neg e, hTo v' e, t1 28 (by decide), t2 v' e]
            obtain ⟨c1, c2⟩ := h6 v' hv'
            refine ⟨c1, fun q => ?_⟩
            obtain ⟨f', f1, f2, f3⟩ := c2 q
            exact ⟨f', f1, by omega, f3⟩
      refine oT_N 3 rfl (oT_I (o := 28) (n := nI v) rfl (Or.inl ⟨rfl, by decide⟩) nv ?_)
      rw [cv, b1]
      refine oT_N 1 rfl (oT_eq (oTt P al C K X v) 0 rfl rfl (by omega) (by decide) (fun q => ?_) (fun q => ?_))
      · refine oT_N 4 rfl (oT_Is (o := 29) (n := nI v) (x := nI X) rfl ⟨rfl, by decide⟩ nv ?_)
        rw [cv]
        refine fin _ X (fun o ho => ox_up_ne ho) (fun q hq => by rw [ox_up_at, if_neg hq]) (by rw [ox_up_at, if_pos rfl]) (by omega) ha hv (fun x hx q2 => ?_)
        have hb : (al x && decide (oNn P C K x = v)) = true := by rw [q2.1, decide_eq_true q2.2]; rfl
        have := oCn_lt (f := fun x => al x && decide (oNn P C K x = v)) hx hb
        unfold oTt at q
        omega
      · obtain ⟨f, f1, f2, f3, f4, f5⟩ := b2 (by omega)
        exact fin σ f (fun _ _ => rfl) (fun _ _ => rfl) f1 (by omega) f3 f4 f5
    | succ d ih =>
      intro i l5 hi
      obtain ⟨r1, r2, -⟩ := oRd_sp (P := P) (i := i) (by omega)
      have hpl := (hP.2.2 _ r1).2.2 (by omega)
      obtain ⟨e1, e2, e3, e4, e5⟩ := h5 _ hpl
      have hpkl := oPk_lt (P := P) (x := X) (i := i)
      obtain ⟨d1, d2, d3⟩ := e5 (oPk P X i) (by omega)
      have hwp : oW P (P.pl (oRd P i)) ≤ 12 := Nat.le_trans (ocW_le P _ P.n) hP.2.1
      obtain ⟨-, -, -, j1, j2, j3, -⟩ := ox_k34 (P.pl (oRd P i)) hpl
      have npl : ¬ (nI (P.pl (oRd P i)) < 0 ∨ 4 ≤ (nI (P.pl (oRd P i))).toNatClampNeg) := ox_ix (by omega) (by decide)
      have cpl : (nI (P.pl (oRd P i))).toNatClampNeg = P.pl (oRd P i) := nI_clamp (by omega)
      have ci : (nI i).toNatClampNeg = i := nI_clamp (by omega)
      have ni : ¬ (nI i < 0 ∨ 12 ≤ (nI i).toNatClampNeg) := ox_ix (by omega) (by decide)
      refine oT_N 4 rfl (oT_le (ocR P P.n) i h3 rfl (by omega) (by omega) (fun q => by omega) (fun _ => ?_))
      refine oT_N 3 rfl (oT_I (o := 31) (n := nI i) rfl (Or.inl ⟨rfl, by decide⟩) ni ?_)
      rw [ci, h4 i (by omega)]
      refine oT_N 5 rfl (oT_I (o := 32) (n := nI (P.pl (oRd P i))) rfl (Or.inl ⟨rfl, by decide⟩) npl ?_)
      rw [cpl, e3]
      refine oT_N 4 rfl (oT_A (o := 38) (n := nI (P.pl (oRd P i))) rfl ⟨rfl, by decide⟩ npl ?_)
      rw [cpl]
      refine oT_N 2 rfl (oT_I (o := 68) (n := nI i) rfl (Or.inl ⟨rfl, by decide⟩) ni ?_)
      rw [ci, hpk i (by omega)]
      refine oT_I (o := 39 + P.pl (oRd P i)) (n := nI (oPk P X i)) rfl (Or.inl ⟨j1, j2⟩) (ox_ixL j2 j3 (by omega) (by decide)) ?_
      rw [nI_clamp (by omega), d3]
      have e := ih (i + 1) (some (.int (nI (P.pl (oRd P i))))) (by omega)
      rw [show oNb (oRx P C) (oDi P K X) (i + 1) = oNb (oRx P C) (oDi P K X) i * oRx P C i + oDi P K X i from rfl, ← nI_add, ← pk_mul, ← ox_inc i] at e
      exact oT_N 4 rfl e
  exact loop (ocR P P.n) 0 none (by omega)
end OYK
