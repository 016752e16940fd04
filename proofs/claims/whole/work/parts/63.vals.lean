/-- c values in order -/
def oSo (vs : Nat → Int32) (c : Nat) : Prop := ∀ a b, a < b → b < c → vs a < vs b
theorem ork_sp {σ : ox_S} {p : Nat} {v : Int32} : ∀ c, oSo (σ (34 + p)) c → (∀ q, q < orkS σ p v c → σ (34 + p) q < v) ∧ ∀ q, orkS σ p v c ≤ q → q < c → v ≤ σ (34 + p) q
  | 0, _ => ⟨fun q hq => absurd hq (Nat.not_lt_zero q), fun q _ hq => absurd hq (Nat.not_lt_zero q)⟩
  | c + 1, h => by
    obtain ⟨h1, h2⟩ := ork_sp (σ := σ) (p := p) (v := v) c (fun a b q1 q2 => h a b q1 (by omega))
    have hle := orkS_le σ p v c
    simp only [orkS]
    by_cases e : σ (34 + p) c < v
    · rw [if_pos e]
      have hc : orkS σ p v c = c := by
        rcases Nat.lt_or_ge (orkS σ p v c) c with q | q
        · exact absurd (Int32.lt_of_le_of_lt (h2 _ (Nat.le_refl _) q) (h _ c q (by omega))) (Int32.not_lt.mpr (Int32.le_of_lt e))
        · omega
      rw [hc] at h1 ⊢
      refine ⟨fun q hq => ?_, fun q q1 q2 => by omega⟩
      rcases Nat.lt_or_ge q c with r | r
      · exact h1 q r
      · obtain rfl : q = c := by omega
        exact e
    · rw [if_neg e, Nat.add_zero]
      refine ⟨h1, fun q q1 q2 => ?_⟩
      rcases Nat.lt_or_ge q c with r | r
      · exact h2 q q1 r
      · obtain rfl : q = c := by omega
        exact Int32.not_lt.mp e
theorem ork_at {σ : ox_S} {p c q : Nat} (h : oSo (σ (34 + p)) c) (hq : q < c) : orkS σ p (σ (34 + p) q) c = q := by
  obtain ⟨h1, h2⟩ := ork_sp (v := σ (34 + p) q) c h
  rcases Nat.lt_trichotomy (orkS σ p (σ (34 + p) q) c) q with r | r | r
  · exact absurd (Int32.lt_of_le_of_lt (h2 _ (Nat.le_refl _) (by omega)) (h _ q r hq)) Int32.lt_irrefl
  · exact r
  · exact absurd (h1 q r) Int32.lt_irrefl
section OYJ
variable {L k p c : Nat} {σ : ox_S} {P : oPr}
set_option maxHeartbeats 1000000 in
theorem ot_insertValue {v : Int32} (hp : p < 4) (hc : c ≤ 12) (h32 : σ 32 p = nI c) (hs : oSo (σ (34 + p)) c) (hk : 2 ≤ k) (hk9 : k ≤ 9) : oT L k 17 0 [some (.ref 3), some (.int (nI p)), some (.int v), none, none, none] [] σ (fun o σ' => o = .inl none ∧ (∀ o, o ≠ 32 → o ≠ 34 + p → σ' o = σ o) ∧ (∀ q, q ≠ p → σ' 32 q = σ 32 q) ∧ ∃ c', c ≤ c' ∧ c' ≤ c + 1 ∧ σ' 32 p = nI c' ∧ oSo (σ' (34 + p)) c' ∧ (∀ q, q < c → ∃ q', q' < c' ∧ σ' (34 + p) q' = σ (34 + p) q) ∧ ∃ q', q' < c' ∧ σ' (34 + p) q' = v) := by
  obtain ⟨k, rfl⟩ : ∃ k', k = k' + 1 := ⟨k - 1, by omega⟩
  have cp : (nI p).toNatClampNeg = p := nI_clamp (by omega)
  have np : ¬ (nI p < 0 ∨ 4 ≤ (nI p).toNatClampNeg) := ox_ix (by omega) (by decide)
  obtain ⟨k1, k2, k3, -⟩ := ox_k34 p hp
  obtain ⟨s1, s2⟩ := ork_sp (v := v) c hs
  have hle := orkS_le σ p v c
  refine oT_N 3 rfl (oT_V rfl rfl rfl rfl (by omega) (by omega) (ot_rankOf hp (by omega) h32) (fun x σ2 h => by cases h.1) (fun w σ2 hv => ?_))
  obtain ⟨hv, rfl⟩ := hv
  cases hv
  generalize orkS σ2 p v c = t at s1 s2 hle
  refine oT_N 4 rfl (oT_A (o := 33) (n := nI p) rfl ⟨rfl, by decide⟩ np ?_)
  rw [cp]
  refine oT_N 5 rfl (oT_I (o := 32) (n := nI p) rfl (Or.inl ⟨rfl, by decide⟩) np ?_)
  rw [cp, h32]
  -- the shift
  have shift : ∀ (d : Nat) (τ : ox_S), t + d ≤ c → (∀ o, o ≠ 34 + p → τ o = σ2 o) → (∀ q, q ≤ t + d → q < c → τ (34 + p) q = σ2 (34 + p) q) → (∀ q, t + d < q → q < c + 1 → τ (34 + p) q = σ2 (34 + p) (q - 1)) → (∀ q, t ≤ q → q < c → v < σ2 (34 + p) q) → oT L (k + 1) 17 42 [some (.ref 3), some (.int (nI p)), some (.int v), some (.int (nI t)), some (.ref (34 + p)), some (.int (nI (t + d)))] [] τ (fun o σ' => o = .inl none ∧ (∀ o, o ≠ 32 → o ≠ 34 + p → σ' o = σ2 o) ∧ (∀ q, q ≠ p → σ' 32 q = σ2 32 q) ∧ ∃ c', c ≤ c' ∧ c' ≤ c + 1 ∧ σ' 32 p = nI c' ∧ oSo (σ' (34 + p)) c' ∧ (∀ q, q < c → ∃ q', q' < c' ∧ σ' (34 + p) q' = σ2 (34 + p) q) ∧ ∃ q', q' < c' ∧ σ' (34 + p) q' = v) := by
    intro d
    induction d with
    | zero =>
      intro τ hd t1 t2 t3 t4
      refine oT_N 3 rfl (oT_le t t rfl rfl (by omega) (by omega) (fun _ => ?_) (fun q => by omega))
      refine oT_N 3 rfl (oT_Is (o := 34 + p) (n := nI t) (x := v) rfl ⟨k1, k2⟩ (ox_ixL k2 k3 (by omega) (by decide)) ?_)
      rw [nI_clamp (by omega)]
      refine oT_N 4 rfl (oT_I (o := 32) (n := nI p) rfl (Or.inl ⟨rfl, by decide⟩) np ?_)
      rw [cp, ox_up_ne (by omega), t1 32 (by omega), h32]
      refine oT_N 2 rfl (oT_Is (o := 32) (n := nI p) (x := nI c + Int32.ofInt 1) rfl ⟨rfl, by decide⟩ np ?_)
      rw [cp, ox_inc]
      have key : ∀ q, q < c + 1 → ox_up (ox_up τ (34 + p) t v) 32 p (nI (c + 1)) (34 + p) q = oIn t v (σ2 (34 + p)) q := fun q hq => by
        rw [ox_up_ne (by omega), ox_up_at]
        rcases Nat.lt_trichotomy q t with r | r | r
        · rw [if_neg (by omega), oIn_lo r]; exact t2 q (by omega) (by omega)
        · rw [if_pos r, r, oIn_at]
        · rw [if_neg (by omega), oIn_hi r]; exact t3 q (by omega) hq
      refine oT_Retv rfl rfl ⟨rfl, fun o q1 q2 => by rw [ox_up_ne q1, ox_up_ne q2]; exact t1 o q2, fun q hq => by rw [ox_up_at, if_neg hq, ox_up_ne (by omega), t1 32 (by omega)], c + 1, by omega, Nat.le_refl _, by rw [ox_up_at, if_pos rfl], fun a b q1 q2 => ?_, fun q hq => ?_, t, by omega, by rw [key t (by omega), oIn_at]⟩
      · rw [key a (by omega), key b q2]
        rcases Nat.lt_trichotomy a t with r | r | r
        · rw [oIn_lo r]
          rcases Nat.lt_trichotomy b t with r2 | r2 | r2
          · rw [oIn_lo r2]; exact hs a b q1 (by omega)
          · rw [r2, oIn_at]; exact s1 a r
          · rw [oIn_hi r2]; exact Int32.lt_trans (s1 a r) (t4 (b - 1) (by omega) (by omega))
        · rw [r, oIn_at, oIn_hi (by omega)]; exact t4 (b - 1) (by omega) (by omega)
        · rw [oIn_hi r, oIn_hi (by omega)]; exact hs (a - 1) (b - 1) (by omega) (by omega)
      · rcases Nat.lt_or_ge q t with r | r
        · exact ⟨q, by omega, by rw [key q (by omega), oIn_lo r]⟩
        · exact ⟨q + 1, by omega, by rw [key (q + 1) (by omega), oIn_hi (by omega)]; rfl⟩
    | succ d ih =>
      intro τ hd t1 t2 t3 t4
      refine oT_N 3 rfl (oT_le (t + (d + 1)) t rfl rfl (by omega) (by omega) (fun q => by omega) (fun _ => ?_))
      have e1 : nI (t + (d + 1)) - Int32.ofInt 1 = nI (t + d) := ox_sb1 (t + d)
      refine oT_N 6 rfl (oT_I (o := 34 + p) (n := nI (t + (d + 1)) - Int32.ofInt 1) rfl (Or.inl ⟨k1, k2⟩) (by rw [e1]; exact ox_ixL k2 k3 (by omega) (by decide)) ?_)
      rw [e1, nI_clamp (by omega), t2 (t + d) (by omega) (by omega)]
      refine oT_Is (o := 34 + p) (n := nI (t + (d + 1))) (x := σ2 (34 + p) (t + d)) rfl ⟨k1, k2⟩ (ox_ixL k2 k3 (by omega) (by decide)) ?_
      rw [nI_clamp (by omega)]
      have e := ih (ox_up τ (34 + p) (t + (d + 1)) (σ2 (34 + p) (t + d))) (by omega) (fun o ho => by rw [ox_up_ne ho]; exact t1 o ho) (fun q q1 q2 => by rw [ox_up_at, if_neg (by omega)]; exact t2 q (by omega) q2) (fun q q1 q2 => by
        rw [ox_up_at]
        by_cases r : q = t + (d + 1)
        · rw [if_pos r, r]
          rfl
        · rw [if_neg r]; exact t3 q (by omega) q2) t4
      rw [← ox_dec (t + d)] at e
      exact oT_N 2 rfl e
  have go : (∀ q, t ≤ q → q < c → v < σ2 (34 + p) q) → oT L (k + 1) 17 34 [some (.ref 3), some (.int (nI p)), some (.int v), some (.int (nI t)), some (.ref (34 + p)), none] [] σ2 (fun o σ' => o = .inl none ∧ (∀ o, o ≠ 32 → o ≠ 34 + p → σ' o = σ2 o) ∧ (∀ q, q ≠ p → σ' 32 q = σ2 32 q) ∧ ∃ c', c ≤ c' ∧ c' ≤ c + 1 ∧ σ' 32 p = nI c' ∧ oSo (σ' (34 + p)) c' ∧ (∀ q, q < c → ∃ q', q' < c' ∧ σ' (34 + p) q' = σ2 (34 + p) q) ∧ ∃ q', q' < c' ∧ σ' (34 + p) q' = v) := fun hq => by
    refine oT_N 3 rfl (oT_I (o := 32) (n := nI p) rfl (Or.inl ⟨rfl, by decide⟩) np ?_)
    rw [cp, h32]
    have e := shift (c - t) σ2 (by omega) (fun _ _ => rfl) (fun _ _ _ => rfl) (fun q q1 q2 => by omega) hq
    rw [show t + (c - t) = c by omega] at e
    exact oT_N 1 rfl e
  refine oT_N 1 rfl (oT_le c t rfl rfl (by omega) (by omega) (fun q => go (fun q' q1 q2 => by omega)) (fun q => ?_))
  refine oT_N 2 rfl (oT_I (o := 34 + p) (n := nI t) rfl (Or.inl ⟨k1, k2⟩) (ox_ixL k2 k3 (by omega) (by decide)) ?_)
  rw [nI_clamp (by omega)]
  refine oT_N 2 rfl (oT_If (fun (q2 : σ2 (34 + p) t = v) => ?_) (fun (q2 : ¬ σ2 (34 + p) t = v) => go (fun q' q3 q4 => ?_)))
  · exact oT_Retv rfl rfl ⟨rfl, fun _ _ _ => rfl, fun _ _ => rfl, c, Nat.le_refl _, by omega, h32, hs, fun q hq => ⟨q, hq, rfl⟩, t, q, q2⟩
  · have h1 : v < σ2 (34 + p) t := Int32.lt_of_le_of_ne (s2 t (Nat.le_refl _) q) (fun e => q2 e.symm)
    rcases Nat.lt_or_ge t q' with r | r
    · exact Int32.lt_trans h1 (hs t q' r q4)
    · obtain rfl : q' = t := by omega
      exact h1
/-- what the j-th way to read place p gives -/
def oWv (P : oPr) (p j : Nat) : Int32 := if j = 0 then 0 else P.vl (oWr P p (j - 1))
/-- place p's values are ranked: c of them -/
def oPv (σ : ox_S) (P : oPr) (p c : Nat) (rk : Nat → Nat) : Prop := 1 ≤ c ∧ c ≤ 1 + oW P p ∧ σ 32 p = nI c ∧ oSo (σ (34 + p)) c ∧ ∀ j, j ≤ oW P p → rk j < c ∧ σ (34 + p) (rk j) = oWv P p j ∧ σ (39 + p) j = nI (rk j)
set_option maxHeartbeats 1000000 in
theorem ot_rankValues (h : oC σ P) (hp : p < 4) (hk : 3 ≤ k) (hk9 : k ≤ 9) : oT L k 16 0 [some (.ref 3), some (.ref 1), some (.int (nI p)), none, none] [] σ (fun o σ' => o = .inl none ∧ (∀ o, o ≠ 32 → o ≠ 34 + p → o ≠ 39 + p → σ' o = σ o) ∧ (∀ q, q ≠ p → σ' 32 q = σ 32 q) ∧ ∃ c rk, oPv σ' P p c rk) := by
  obtain ⟨k, rfl⟩ : ∃ k', k = k' + 1 := ⟨k - 1, by omega⟩
  obtain ⟨⟨hT, hn, hok⟩, a2, a3, a4, a5, a6, a7, a8, a9⟩ := id h
  have cp : (nI p).toNatClampNeg = p := nI_clamp (by omega)
  have np : ¬ (nI p < 0 ∨ 4 ≤ (nI p).toNatClampNeg) := ox_ix (by omega) (by decide)
  obtain ⟨k1, k2, k3, j1, j2, j3, i1, i2, i3⟩ := ox_k34 p hp
  have hw : oW P p ≤ 12 := Nat.le_trans (ocW_le P p P.n) hn
  -- the ranks
  have ranks : ∀ (d i c : Nat) (τ : ox_S) (rk : Nat → Nat), i + d = oW P p → 1 ≤ c → c ≤ 1 + oW P p → (∀ o, o ≠ 32 → o ≠ 34 + p → o ≠ 39 + p → τ o = σ o) → (∀ q, q ≠ p → τ 32 q = σ 32 q) → τ 32 p = nI c → oSo (τ (34 + p)) c → (∀ j, j ≤ oW P p → ∃ q, q < c ∧ τ (34 + p) q = oWv P p j) → (∀ j, j ≤ i → rk j < c ∧ τ (34 + p) (rk j) = oWv P p j ∧ τ (39 + p) j = nI (rk j)) → oT L (k + 1) 16 74 [some (.ref 3), some (.ref 1), some (.int (nI p)), some (.int (nI (oW P p))), some (.int (nI i))] [] τ (fun o σ' => o = .inl none ∧ (∀ o, o ≠ 32 → o ≠ 34 + p → o ≠ 39 + p → σ' o = σ o) ∧ (∀ q, q ≠ p → σ' 32 q = σ 32 q) ∧ ∃ c rk, oPv σ' P p c rk) := by
    intro d
    induction d with
    | zero =>
      intro i c τ rk hi c1 c2 t1 t2 t3 t4 t5 t6
      refine oT_N 3 rfl (oT_le (oW P p) i rfl rfl (by omega) (by omega) (fun _ => ?_) (fun q => by omega))
      exact oT_Retv rfl rfl ⟨rfl, t1, t2, c, rk, c1, c2, t3, t4, fun j hj => t6 j (by omega)⟩
    | succ d ih =>
      intro i c τ rk hi c1 c2 t1 t2 t3 t4 t5 t6
      obtain ⟨w1, w2, w3, -⟩ := oWr_sp (P := P) (p := p) (j := i) (by omega)
      refine oT_N 3 rfl (oT_le (oW P p) i rfl rfl (by omega) (by omega) (fun q => by omega) (fun _ => ?_))
      refine oT_N 3 rfl (oT_A (o := 38) (n := nI p) rfl ⟨rfl, by decide⟩ np ?_)
      rw [cp]
      refine oT_N 10 rfl (oT_A (o := 17) (n := nI p) rfl ⟨rfl, by decide⟩ np ?_)
      rw [cp]
      refine oT_N 1 rfl (oT_I (o := 18 + p) (n := nI i) rfl (Or.inl ⟨i1, i2⟩) (ox_ixL i2 i3 (by omega) (by decide)) ?_)
      rw [nI_clamp (by omega), t1 (18 + p) (by omega) (by omega) (by omega), a9 p hp i (by omega)]
      refine oT_I (o := 12) (n := nI (oWr P p i)) rfl (Or.inl ⟨rfl, by decide⟩) (ox_ix (N := 12) (by omega) (by decide)) ?_
      rw [nI_clamp (by omega), t1 12 (by omega) (by omega) (by omega), (a5 _ w1).2.2.2.1]
      refine oT_V rfl rfl rfl rfl (by omega) (by omega) (ot_rankOf (c := c) hp (by omega) t3) (fun x σ2 h => by cases h.1) (fun v σ2 hv => ?_)
      obtain ⟨hv, rfl⟩ := hv
      cases hv
      obtain ⟨q, q1, q2⟩ := t5 (i + 1) (by omega)
      have hv1 : oWv P p (i + 1) = P.vl (oWr P p i) := by unfold oWv; rw [if_neg (by omega)]; rfl
      have hrk : orkS σ2 p (P.vl (oWr P p i)) c = q := by rw [← hv1, ← q2]; exact ork_at t4 q1
      rw [hrk]
      refine oT_Is (o := 39 + p) (n := nI i + Int32.ofInt 1) (x := nI q) rfl ⟨j1, j2⟩ (by rw [ox_inc]; exact ox_ixL j2 j3 (by omega) (by decide)) ?_
      rw [ox_inc, nI_clamp (by omega)]
      have e := ih (i + 1) c (ox_up σ2 (39 + p) (i + 1) (nI q)) (fun j => if j ≤ i then rk j else q) (by omega) c1 c2 (fun o q1 q2 q3 => by rw [ox_up_ne q3]; exact t1 o q1 q2 q3) (fun q' hq' => by rw [ox_up_ne (by omega)]; exact t2 q' hq') (by rw [ox_up_ne (by omega)]; exact t3) (by rw [ox_up_ne (by omega)]; exact t4) (fun j hj => by rw [ox_up_ne (by omega)]; exact t5 j hj) (fun j hj => by
        rw [ox_up_ne (show 34 + p ≠ 39 + p by omega), ox_up_at]
        by_cases e : j ≤ i
        · rw [if_pos e, if_neg (by omega)]; exact t6 j e
        · obtain rfl : j = i + 1 := by omega
          rw [if_neg e, if_pos rfl]
          exact ⟨q1, q2, rfl⟩)
      rw [← ox_inc i] at e
      exact oT_N 2 rfl e
  -- the values
  have vals : ∀ (d i c : Nat) (τ : ox_S), i + d = oW P p → 1 ≤ c → c ≤ 1 + i → (∀ o, o ≠ 32 → o ≠ 34 + p → τ o = σ o) → (∀ q, q ≠ p → τ 32 q = σ 32 q) → τ 32 p = nI c → oSo (τ (34 + p)) c → (∀ j, j ≤ i → ∃ q, q < c ∧ τ (34 + p) q = oWv P p j) → oT L (k + 1) 16 26 [some (.ref 3), some (.ref 1), some (.int (nI p)), some (.int (nI (oW P p))), some (.int (nI i))] [] τ (fun o σ' => o = .inl none ∧ (∀ o, o ≠ 32 → o ≠ 34 + p → o ≠ 39 + p → σ' o = σ o) ∧ (∀ q, q ≠ p → σ' 32 q = σ 32 q) ∧ ∃ c rk, oPv σ' P p c rk) := by
    intro d
    induction d with
    | zero =>
      intro i c τ hi c1 c2 t1 t2 t3 t4 t5
      refine oT_N 3 rfl (oT_le (oW P p) i rfl rfl (by omega) (by omega) (fun _ => ?_) (fun q => by omega))
      refine oT_N 3 rfl (oT_A (o := 38) (n := nI p) rfl ⟨rfl, by decide⟩ np ?_)
      rw [cp]
      refine oT_N 4 rfl (oT_V rfl rfl rfl rfl (by omega) (by omega) (ot_rankOf (c := c) (v := 0) hp (by omega) t3) (fun x σ2 h => by cases h.1) (fun v σ2 hv => ?_))
      obtain ⟨hv, rfl⟩ := hv
      cases hv
      obtain ⟨q, q1, q2⟩ := t5 0 (by omega)
      have hrk : orkS σ2 p 0 c = q := by
        have := ork_at t4 q1
        rw [q2] at this
        exact this
      rw [hrk]
      refine oT_Is (o := 39 + p) (n := nI 0) (x := nI q) rfl ⟨j1, j2⟩ (ox_ixL j2 j3 (by omega) (by decide)) ?_
      rw [show (nI 0).toNatClampNeg = 0 from rfl]
      refine oT_N 2 rfl (ranks (oW P p) 0 c _ (fun _ => q) (by omega) c1 (by omega) (fun o q1 q2 q3 => by rw [ox_up_ne q3]; exact t1 o q1 q2) (fun q' hq' => by rw [ox_up_ne (by omega)]; exact t2 q' hq') (by rw [ox_up_ne (by omega)]; exact t3) (by rw [ox_up_ne (by omega)]; exact t4) (fun j hj => by rw [ox_up_ne (by omega)]; exact t5 j (by omega)) (fun j hj => ?_))
      obtain rfl : j = 0 := by omega
      rw [ox_up_ne (show 34 + p ≠ 39 + p by omega), ox_up_at, if_pos rfl]
      exact ⟨q1, q2, rfl⟩
    | succ d ih =>
      intro i c τ hi c1 c2 t1 t2 t3 t4 t5
      obtain ⟨w1, w2, w3, -⟩ := oWr_sp (P := P) (p := p) (j := i) (by omega)
      refine oT_N 3 rfl (oT_le (oW P p) i rfl rfl (by omega) (by omega) (fun q => by omega) (fun _ => ?_))
      refine oT_N 7 rfl (oT_A (o := 17) (n := nI p) rfl ⟨rfl, by decide⟩ np ?_)
      rw [cp]
      refine oT_N 1 rfl (oT_I (o := 18 + p) (n := nI i) rfl (Or.inl ⟨i1, i2⟩) (ox_ixL i2 i3 (by omega) (by decide)) ?_)
      rw [nI_clamp (by omega), t1 (18 + p) (by omega) (by omega), a9 p hp i (by omega)]
      refine oT_I (o := 12) (n := nI (oWr P p i)) rfl (Or.inl ⟨rfl, by decide⟩) (ox_ix (N := 12) (by omega) (by decide)) ?_
      rw [nI_clamp (by omega), t1 12 (by omega) (by omega), (a5 _ w1).2.2.2.1]
      refine oT_V rfl rfl rfl rfl (by omega) (by omega) (ot_insertValue (c := c) hp (by omega) t3 t4 (by omega) (by omega)) (fun x σ2 h => by cases h.1) (fun v σ2 hv => ?_)
      obtain ⟨hv, v1, v2, c', v3, v4, v5, v6, v7, v8⟩ := hv
      cases hv
      have e := ih (i + 1) c' σ2 (by omega) (by omega) (by omega) (fun o q1 q2 => by rw [v1 o q1 q2]; exact t1 o q1 q2) (fun q hq => by rw [v2 q hq]; exact t2 q hq) v5 v6 (fun j hj => by
        rcases Nat.lt_or_ge i j with q | q
        · obtain rfl : j = i + 1 := by omega
          have hv1 : oWv P p (i + 1) = P.vl (oWr P p i) := by unfold oWv; rw [if_neg (by omega)]; rfl
          rw [hv1]
          exact v8
        · obtain ⟨q', r1, r2⟩ := t5 j q
          obtain ⟨q'', r3, r4⟩ := v7 q' r1
          exact ⟨q'', r3, by rw [r4]; exact r2⟩)
      rw [← ox_inc i] at e
      exact oT_N 2 rfl e
  refine oT_N 3 rfl (oT_A (o := 33) (n := nI p) rfl ⟨rfl, by decide⟩ np ?_)
  rw [cp]
  refine oT_N 2 rfl (oT_Is (o := 34 + p) (n := nI 0) (x := 0) rfl ⟨k1, k2⟩ (ox_ixL k2 k3 (by omega) (by decide)) ?_)
  rw [show (nI 0).toNatClampNeg = 0 from rfl]
  refine oT_N 4 rfl (oT_Is (o := 32) (n := nI p) (x := nI 1) rfl ⟨rfl, by decide⟩ np ?_)
  rw [cp]
  refine oT_N 3 rfl (oT_I (o := 15) (n := nI p) rfl (Or.inl ⟨rfl, by decide⟩) np ?_)
  rw [cp, ox_up_ne (by decide), ox_up_ne (by omega), a7 p hp]
  refine oT_N 3 rfl (vals (oW P p) 0 1 _ (by omega) (Nat.le_refl 1) (Nat.le_refl 1) (fun o q1 q2 => by rw [ox_up_ne q1, ox_up_ne q2]) (fun q hq => by rw [ox_up_at, if_neg hq, ox_up_ne (by omega)]) (by rw [ox_up_at, if_pos rfl]) (fun a b q1 q2 => by omega) (fun j hj => ⟨0, by omega, ?_⟩))
  obtain rfl : j = 0 := by omega
  rw [ox_up_ne (by omega), ox_up_at, if_pos rfl]
  rfl
end OYJ
