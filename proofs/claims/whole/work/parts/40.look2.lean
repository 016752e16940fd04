/-- what was looked at: events, reads, relations, sources, writes, orders, values, ring's size, ring -/
abbrev oSe : Type := Nat × Nat × Nat × (Nat → Int32) × (Nat → Nat) × (Nat → Nat → Nat) × (Nat → Nat → Nat → Bool) × Nat × (Nat → Nat)
abbrev oSe.E (S : oSe) : Nat := S.1
abbrev oSe.R (S : oSe) : Nat := S.2.1
abbrev oSe.N (S : oSe) : Nat := S.2.2.1
abbrev oSe.sc (S : oSe) : Nat → Int32 := S.2.2.2.1
abbrev oSe.W (S : oSe) : Nat → Nat := S.2.2.2.2.1
abbrev oSe.od (S : oSe) : Nat → Nat → Nat := S.2.2.2.2.2.1
abbrev oSe.v (S : oSe) : Nat → Nat → Nat → Bool := S.2.2.2.2.2.2.1
abbrev oSe.m (S : oSe) : Nat := S.2.2.2.2.2.2.2.1
abbrev oSe.g (S : oSe) : Nat → Nat := S.2.2.2.2.2.2.2.2
def oSe.ok (S : oSe) : Prop := S.E ≤ 12 ∧ S.R ≤ 12 ∧ S.N ≤ 40 ∧ (∀ p, p < 4 → S.W p ≤ 12) ∧ S.m ≤ 12
/-- the reference holds what was looked at -/
def oRS (σ : ox_S) (S : oSe) : Prop := S.ok ∧ σ 7 29 = nI S.E ∧ σ 7 30 = nI S.R ∧ σ 7 31 = nI S.N ∧ (∀ i, i < S.R → σ 63 i = S.sc i) ∧ (∀ p, p < 4 → σ 65 p = nI (S.W p)) ∧ (∀ p i, p < 4 → i < S.W p → σ 64 (12 * p + i) = nI (S.od p i)) ∧ (∀ r a b, r < S.N → a < S.E → b < S.E → σ 67 (144 * r + 12 * a + b) = if S.v r a b then 1 else 0) ∧ σ 7 32 = nI S.m ∧ ∀ i, i < S.m → σ 66 i = nI (S.g i)
set_option maxHeartbeats 1000000 in
theorem ot_look2 {L k R : Nat} {P : oPr} {τ : ox_S} {x x2 b : Int32} {Post : ox_O → ox_S → Prop} (h : oM τ P) (hR : τ 7 8 = nI R) (hR40 : R ≤ 40) (hz : oZ1 τ 56 5760) (hk : 1 ≤ k) (hk8 : k ≤ 8)
    (hP : ∀ τ', (∀ o, o ≠ 7 → o < 63 ∨ o = 66 ∨ 67 < o → τ' o = τ o) → (∀ q, q < 29 ∨ 31 < q → τ' 7 q = τ 7 q) → τ' 7 29 = nI P.n → τ' 7 30 = nI (ocR P P.n) → τ' 7 31 = nI R → (∀ i, i < 12 → τ' 63 i = τ 52 i) → (∀ i, i < 48 → τ' 64 i = τ 53 i) → (∀ i, i < 4 → τ' 65 i = τ 54 i) → (∀ q, q < 144 * R → τ' 67 q = τ 56 q) → Post (.inl (some (.int b))) τ') :
    oT L (k + 1) 85 92 [some (.ref 7), some (.int x), some (.int x2), some (.int b), none] [] τ Post := by
  have hM2 : oM (ox_up τ 7 29 (τ 7 2)) P := oM_ext h rfl rfl (fun o q1 q2 => ox_up_ne (by omega))
  refine oT_N 6 rfl (oT_V rfl rfl rfl rfl (by omega) (by omega) (ot_reads hM2) (fun x σ2 h => by cases h.1) (fun v σ2 hv => ?_))
  obtain ⟨hv, rfl⟩ := hv
  cases hv
  have c4 : ∀ (d i : Nat) (ρ : ox_S), i + d = 144 * R → (∀ o, o ≠ 7 → o < 63 ∨ o = 66 ∨ 67 < o → ρ o = τ o) → (∀ q, q < 29 ∨ 31 < q → ρ 7 q = τ 7 q) → ρ 7 29 = nI P.n → ρ 7 30 = nI (ocR P P.n) → ρ 7 31 = nI R → (∀ i, i < 12 → ρ 63 i = τ 52 i) → (∀ i, i < 48 → ρ 64 i = τ 53 i) → (∀ i, i < 4 → ρ 65 i = τ 54 i) → (∀ q, q < i → ρ 67 q = τ 56 q) → oT L (k + 1) 85 208 [some (.ref 7), some (.int x), some (.int x2), some (.int b), some (.int (nI i))] [] ρ Post := by
    intro d
    induction d with
    | zero =>
      intro i ρ hi a1 a2 a3 a4 a5 a6 a7 a8 a9
      refine oT_N 6 rfl (oT_le (144 * R) i (by rw [a2 8 (by decide), hR]; exact pk_mul 144 R) rfl (by omega) (by omega) (fun _ => ?_) (fun q => by omega))
      exact oT_N 1 rfl (oT_Ret rfl rfl rfl (hP ρ a1 a2 a3 a4 a5 a6 a7 a8 (fun q hq => a9 q (by omega))))
    | succ d ih =>
      intro i ρ hi a1 a2 a3 a4 a5 a6 a7 a8 a9
      refine oT_N 6 rfl (oT_le (144 * R) i (by rw [a2 8 (by decide), hR]; exact pk_mul 144 R) rfl (by omega) (by omega) (fun q => by omega) (fun _ => ?_))
      refine oT_N 6 rfl (oT_Z (o := 56) (n := nI i) rfl ⟨rfl, by decide⟩ (ox_ix (N := 5760) (by omega) (by decide)) ?_)
      rw [nI_clamp (show i < 2 ^ 31 by omega)]
      refine oT_Zs (o := 67) (n := nI i) (x := ρ 56 i) rfl ⟨rfl, by decide⟩ (ox_ix (N := 5760) (by omega) (by decide)) ?_
      rw [nI_clamp (show i < 2 ^ 31 by omega)]
      have e0 : vp_nar .boolean (ρ 56 i) = τ 56 i := by
        rw [a1 56 (by decide) (by decide)]
        rcases hz i (by omega) with q | q
        · rw [q]; rfl
        · rw [q]; rfl
      rw [e0]
      have e := ih (i + 1) (ox_up ρ 67 i (τ 56 i)) (by omega) (fun o q1 q2 => by rw [ox_up_ne (by omega)]; exact a1 o q1 q2) (fun q hq => by rw [ox_up_ne (by decide)]; exact a2 q hq) (by rw [ox_up_ne (by decide)]; exact a3) (by rw [ox_up_ne (by decide)]; exact a4) (by rw [ox_up_ne (by decide)]; exact a5) (fun i hi => by rw [ox_up_ne (by decide)]; exact a6 i hi) (fun i hi => by rw [ox_up_ne (by decide)]; exact a7 i hi) (fun i hi => by rw [ox_up_ne (by decide)]; exact a8 i hi) (fun q hq => by
        rw [ox_up_at]
        by_cases e : q = i
        · rw [if_pos e, e]
        · rw [if_neg e]; exact a9 q (by omega))
      rw [← ox_inc i] at e
      exact oT_N 2 rfl e
  have c3 : ∀ (d i : Nat) (ρ : ox_S), i + d = 4 → (∀ o, o ≠ 7 → o < 63 ∨ o = 66 ∨ 67 < o → ρ o = τ o) → (∀ q, q < 29 ∨ 31 < q → ρ 7 q = τ 7 q) → ρ 7 29 = nI P.n → ρ 7 30 = nI (ocR P P.n) → ρ 7 31 = nI R → (∀ i, i < 12 → ρ 63 i = τ 52 i) → (∀ i, i < 48 → ρ 64 i = τ 53 i) → (∀ j, j < i → ρ 65 j = τ 54 j) → oT L (k + 1) 85 179 [some (.ref 7), some (.int x), some (.int x2), some (.int b), some (.int (nI i))] [] ρ Post := by
    intro d
    induction d with
    | zero =>
      intro i ρ hi a1 a2 a3 a4 a5 a6 a7 a8
      refine oT_N 3 rfl (oT_le 4 i rfl rfl (by decide) (by omega) (fun _ => ?_) (fun q => by omega))
      exact oT_N 2 rfl (c4 (144 * R) 0 ρ (by omega) a1 a2 a3 a4 a5 a6 a7 (fun j hj => a8 j (by omega)) (fun q hq => by omega))
    | succ d ih =>
      intro i ρ hi a1 a2 a3 a4 a5 a6 a7 a8
      refine oT_N 3 rfl (oT_le 4 i rfl rfl (by decide) (by omega) (fun q => by omega) (fun _ => ?_))
      refine oT_N 6 rfl (oT_I (o := 54) (n := nI i) rfl (Or.inl ⟨rfl, by decide⟩) (ox_ix (N := 4) (by omega) (by decide)) ?_)
      rw [nI_clamp (show i < 2 ^ 31 by omega), a1 54 (by decide) (by decide)]
      refine oT_Is (o := 65) (n := nI i) (x := τ 54 i) rfl ⟨rfl, by decide⟩ (ox_ix (N := 4) (by omega) (by decide)) ?_
      rw [nI_clamp (show i < 2 ^ 31 by omega)]
      have e := ih (i + 1) (ox_up ρ 65 i (τ 54 i)) (by omega) (fun o q1 q2 => by rw [ox_up_ne (by omega)]; exact a1 o q1 q2) (fun q hq => by rw [ox_up_ne (by decide)]; exact a2 q hq) (by rw [ox_up_ne (by decide)]; exact a3) (by rw [ox_up_ne (by decide)]; exact a4) (by rw [ox_up_ne (by decide)]; exact a5) (fun i hi => by rw [ox_up_ne (by decide)]; exact a6 i hi) (fun i hi => by rw [ox_up_ne (by decide)]; exact a7 i hi) (fun q hq => by
        rw [ox_up_at]
        by_cases e : q = i
        · rw [if_pos e, e]
        · rw [if_neg e]; exact a8 q (by omega))
      rw [← ox_inc i] at e
      exact oT_N 2 rfl e
  have c2 : ∀ (d i : Nat) (ρ : ox_S), i + d = 48 → (∀ o, o ≠ 7 → o < 63 ∨ o = 66 ∨ 67 < o → ρ o = τ o) → (∀ q, q < 29 ∨ 31 < q → ρ 7 q = τ 7 q) → ρ 7 29 = nI P.n → ρ 7 30 = nI (ocR P P.n) → ρ 7 31 = nI R → (∀ i, i < 12 → ρ 63 i = τ 52 i) → (∀ j, j < i → ρ 64 j = τ 53 j) → oT L (k + 1) 85 149 [some (.ref 7), some (.int x), some (.int x2), some (.int b), some (.int (nI i))] [] ρ Post := by
    intro d
    induction d with
    | zero =>
      intro i ρ hi a1 a2 a3 a4 a5 a6 a7
      refine oT_N 3 rfl (oT_le 48 i rfl rfl (by decide) (by omega) (fun _ => ?_) (fun q => by omega))
      exact oT_N 2 rfl (c3 4 0 ρ (by omega) a1 a2 a3 a4 a5 a6 (fun j hj => a7 j (by omega)) (fun j hj => by omega))
    | succ d ih =>
      intro i ρ hi a1 a2 a3 a4 a5 a6 a7
      refine oT_N 3 rfl (oT_le 48 i rfl rfl (by decide) (by omega) (fun q => by omega) (fun _ => ?_))
      refine oT_N 6 rfl (oT_I (o := 53) (n := nI i) rfl (Or.inl ⟨rfl, by decide⟩) (ox_ix (N := 48) (by omega) (by decide)) ?_)
      rw [nI_clamp (show i < 2 ^ 31 by omega), a1 53 (by decide) (by decide)]
      refine oT_Is (o := 64) (n := nI i) (x := τ 53 i) rfl ⟨rfl, by decide⟩ (ox_ix (N := 48) (by omega) (by decide)) ?_
      rw [nI_clamp (show i < 2 ^ 31 by omega)]
      have e := ih (i + 1) (ox_up ρ 64 i (τ 53 i)) (by omega) (fun o q1 q2 => by rw [ox_up_ne (by omega)]; exact a1 o q1 q2) (fun q hq => by rw [ox_up_ne (by decide)]; exact a2 q hq) (by rw [ox_up_ne (by decide)]; exact a3) (by rw [ox_up_ne (by decide)]; exact a4) (by rw [ox_up_ne (by decide)]; exact a5) (fun i hi => by rw [ox_up_ne (by decide)]; exact a6 i hi) (fun q hq => by
        rw [ox_up_at]
        by_cases e : q = i
        · rw [if_pos e, e]
        · rw [if_neg e]; exact a7 q (by omega))
      rw [← ox_inc i] at e
      exact oT_N 2 rfl e
  have c1 : ∀ (d i : Nat) (ρ : ox_S), i + d = 12 → (∀ o, o ≠ 7 → o < 63 ∨ o = 66 ∨ 67 < o → ρ o = τ o) → (∀ q, q < 29 ∨ 31 < q → ρ 7 q = τ 7 q) → ρ 7 29 = nI P.n → ρ 7 30 = nI (ocR P P.n) → ρ 7 31 = nI R → (∀ j, j < i → ρ 63 j = τ 52 j) → oT L (k + 1) 85 119 [some (.ref 7), some (.int x), some (.int x2), some (.int b), some (.int (nI i))] [] ρ Post := by
    intro d
    induction d with
    | zero =>
      intro i ρ hi a1 a2 a3 a4 a5 a6
      refine oT_N 3 rfl (oT_le 12 i rfl rfl (by decide) (by omega) (fun _ => ?_) (fun q => by omega))
      exact oT_N 2 rfl (c2 48 0 ρ (by omega) a1 a2 a3 a4 a5 (fun j hj => a6 j (by omega)) (fun j hj => by omega))
    | succ d ih =>
      intro i ρ hi a1 a2 a3 a4 a5 a6
      refine oT_N 3 rfl (oT_le 12 i rfl rfl (by decide) (by omega) (fun q => by omega) (fun _ => ?_))
      refine oT_N 6 rfl (oT_I (o := 52) (n := nI i) rfl (Or.inl ⟨rfl, by decide⟩) (ox_ix (N := 12) (by omega) (by decide)) ?_)
      rw [nI_clamp (show i < 2 ^ 31 by omega), a1 52 (by decide) (by decide)]
      refine oT_Is (o := 63) (n := nI i) (x := τ 52 i) rfl ⟨rfl, by decide⟩ (ox_ix (N := 12) (by omega) (by decide)) ?_
      rw [nI_clamp (show i < 2 ^ 31 by omega)]
      have e := ih (i + 1) (ox_up ρ 63 i (τ 52 i)) (by omega) (fun o q1 q2 => by rw [ox_up_ne (by omega)]; exact a1 o q1 q2) (fun q hq => by rw [ox_up_ne (by decide)]; exact a2 q hq) (by rw [ox_up_ne (by decide)]; exact a3) (by rw [ox_up_ne (by decide)]; exact a4) (by rw [ox_up_ne (by decide)]; exact a5) (fun q hq => by
        rw [ox_up_at]
        by_cases e : q = i
        · rw [if_pos e, e]
        · rw [if_neg e]; exact a6 q (by omega))
      rw [← ox_inc i] at e
      exact oT_N 2 rfl e
  refine oT_N 7 rfl (c1 12 0 _ (by omega) (fun o q1 q2 => ?_) (fun q hq => ?_) ?_ ?_ ?_ (fun j hj => by omega))
  · rw [ox_up_ne q1, ox_up_ne q1, ox_up_ne q1]
  · rw [ox_up_at, if_neg (show ¬ q = 31 by omega), ox_up_at, if_neg (show ¬ q = 30 by omega), ox_up_at, if_neg (show ¬ q = 29 by omega)]
  · exact h.2.2.1
  · rfl
  · exact hR
/-- what 'look' leaves of execution x -/
def oLk (P : oPr) (M : oMo) (x : Nat) (b : Int32) (v : Nat → Nat → Nat → Bool) (m : Nat) (g : Nat → Nat) : Prop :=
  oRv P M x (fun _ => True) v ∧ oBk P.n M v b ∧ (b < 0 → m = 0) ∧ ∀ i, i < M.Q → b = nI i → 1 ≤ m ∧ oSh P.n (v (M.rl i)) m ∧ oWk P.n (v (M.rl i)) m g
def oFm (σ σ' : ox_S) : Prop := (∀ o, o < 7 ∨ (7 < o ∧ o < 52) ∨ (57 < o ∧ o < 63) ∨ 67 < o → σ' o = σ o) ∧ (∀ q, q ≠ 0 → (q < 29 ∨ 32 < q) → σ' 7 q = σ 7 q) ∧ oZ1 σ' 56 5760 ∧ oZ1 σ' 57 1872
set_option maxHeartbeats 1000000 in
theorem ot_mlook {L k : Nat} {σ : ox_S} {P : oPr} {M : oMo} {e : Int32} (h : oM σ P) (hm : oMm σ M) (hz : oZ1 σ 56 5760) (hz7 : oZ1 σ 57 1872) (hk : 6 ≤ k) (hk9 : k ≤ 9) :
    oT L k 85 0 [some (.ref 7), some (.int e), none, none, none] [] σ (fun o σ' => if oNx P ≤ 5000 then (if 0 ≤ e ∧ e < nI (oNx P) then ∃ x b v m g, e = nI x ∧ x < oNx P ∧ o = .inl (some (.int b)) ∧ oLk P M x b v m g ∧ oRS σ' (P.n, ocR P P.n, M.R, oSc P x, oW P, oOd P x, v, m, g) ∧ oFm σ σ' ∧ σ' 7 0 = 0 else (∃ v, o = .inl (some (.int v))) ∧ σ' = ox_up σ 7 0 1) else (∃ v, o = .inl (some (.int v))) ∧ σ' = ox_up σ 7 0 2) := by
  obtain ⟨k, rfl⟩ : ∃ k', k = k' + 1 := ⟨k - 1, by omega⟩
  have hok := h.1
  have hMok := hm.1
  have hR := ocR_le P P.n
  have hn := hok.2.1
  refine oT_N 1 rfl (oT_V rfl rfl rfl rfl (by omega) (by omega) (ot_executions h (by omega) (by omega)) (fun x σ2 h => by cases h.1) (fun v σ2 hv => ?_))
  obtain ⟨hv, rfl⟩ := hv
  cases hv
  by_cases hN : oNx P ≤ 5000
  · rw [if_pos hN]
    simp only [if_pos hN]
    refine oT_N 4 rfl (oT_le (oNx P) 5000 rfl rfl (by omega) (by decide) (fun _ => ?_) (fun q => by omega))
    refine oT_N 3 rfl (oT_S rfl rfl rfl (by omega) (by omega) ot_isOf (fun x σ2 h => by cases h.1) (fun v σ3 hv => ?_))
    obtain ⟨hv, rfl⟩ := hv
    cases hv
    by_cases he : 0 ≤ e ∧ e < nI (oNx P)
    · rw [if_pos he]
      simp only [if_pos he]
      obtain ⟨x, hx1, rfl⟩ := nI_of (Int32.not_lt.mpr he.1)
      have hx : x < oNx P := (nI_ltI hx1 (by omega)).mp he.2
      refine oT_N 1 rfl (oT_If (fun (q : (1 : Int32) = 0) => absurd q (by decide)) (fun _ => ?_))
      refine oT_N 2 rfl (oT_V rfl rfl rfl rfl (by omega) (by omega) ot_throwing (fun x σ2 h => by cases h.1) (fun v σ4 hv => ?_))
      obtain ⟨hv, rfl⟩ := hv
      cases hv
      refine oT_N 1 rfl (oT_If (fun _ => ?_) (fun q => absurd (show (if oth (Int32.ofInt 0) (Int32.ofInt 0) = 0 then (0 : Int32) else 1) = 0 by decide) q))
      have u0 : ∀ o, o ≠ 7 → ox_up σ3 7 0 (oth (Int32.ofInt 0) (Int32.ofInt 0)) o = σ3 o := fun o ho => ox_up_ne ho
      have u1 : ∀ q, q ≠ 0 → ox_up σ3 7 0 (oth (Int32.ofInt 0) (Int32.ofInt 0)) 7 q = σ3 7 q := fun q hq => by rw [ox_up_at, if_neg hq]
      have u2 : ox_up σ3 7 0 (oth (Int32.ofInt 0) (Int32.ofInt 0)) 7 0 = 0 := by rw [ox_up_at, if_pos rfl]; rfl
      generalize ox_up σ3 7 0 (oth (Int32.ofInt 0) (Int32.ofInt 0)) = τ at u0 u1 u2
      have hM : oM τ P := oM_ext h (u1 1 (by decide)) (u1 2 (by decide)) (fun o q1 q2 => u0 o (by omega))
      have hMm : oMm τ M := oMm_ext hm (u1 8 (by decide)) (u1 12 (by decide)) (fun o q1 q2 => u0 o (by omega))
      refine oT_N 2 rfl (oT_V rfl rfl rfl rfl (by omega) (by omega) (ot_choose hM hN (by omega) (by omega) (by omega)) (fun x σ2 h => by cases h.1) (fun v τ1 hv => ?_))
      obtain ⟨hv, hc⟩ := hv
      cases hv
      have c1 := hc.1
      have hM1 : oM τ1 P := oM_ext hM (by rw [c1 7 (by decide)]) (by rw [c1 7 (by decide)]) (fun o q1 q2 => c1 o (by omega))
      have hMm1 : oMm τ1 M := oMm_ext hMm (by rw [c1 7 (by decide)]) (by rw [c1 7 (by decide)]) (fun o q1 q2 => c1 o (by omega))
      have hsr : oSr τ1 P := fun e he hk => by
        rw [hc.2.1 _ (oRd_of he hk).2]
        rcases oXs_w (x := x) hok he hk with q | ⟨w, q1, q2, q3⟩
        · exact Or.inl q
        · exact Or.inr ⟨w, by omega, q3⟩
      refine oT_N 1 rfl (oT_V rfl rfl rfl rfl (by omega) (by omega) (ot_relate hM1 hMm1 hsr (by unfold oZ1; rw [c1 56 (by decide), u0 56 (by decide)]; exact hz) (by omega) (by omega)) (fun x σ2 h => by cases h.1) (fun v τ2 hv => ?_))
      obtain ⟨hv, r1, r2, r3⟩ := hv
      cases hv
      have hrv : oRv P M x (fun _ => True) (oB τ2) := oIR_gv r3 (fun r a b ha hb => oCh_gv hok ha hb hc)
      have hMm2 : oMm τ2 M := oMm_ext hMm1 (by rw [r1 7 (by decide)]) (by rw [r1 7 (by decide)]) (fun o q1 q2 => r1 o (by omega))
      refine oT_N 1 rfl (oT_V (PostC := fun o τ3 => ∃ b, o = .inl (some (.int b)) ∧ (∀ o, o ≠ 57 → τ3 o = τ2 o) ∧ oZ1 τ3 57 1872 ∧ oBk P.n M (oB τ2) b) rfl rfl rfl rfl (by omega) (by omega) (ot_broken hMm2 r2 (by unfold oZ1; rw [r1 57 (by decide), c1 57 (by decide), u0 57 (by decide)]; exact hz7) (by rw [r1 7 (by decide)]; exact hM1.2.2.1) hn (by omega) (by omega) (fun b τ3 q1 q2 q3 => ⟨b, rfl, q1, q2, q3⟩)) (fun x σ2 h => by obtain ⟨b, h, -⟩ := h; cases h) (fun v τ3 hv => ?_))
      obtain ⟨b, hv', b1, b2, b3⟩ := hv
      cases hv'
      have hMm3 : oMm τ3 M := oMm_ext hMm2 (by rw [b1 7 (by decide)]) (by rw [b1 7 (by decide)]) (fun o q1 q2 => b1 o (by omega))
      have o3 : ∀ o, o < 52 ∨ 57 < o → τ3 o = τ o := fun o ho => by rw [b1 o (by omega), r1 o (by omega), c1 o (by omega)]
      have z3 : oZ1 τ3 56 5760 := by unfold oZ1; rw [b1 56 (by decide)]; exact r2
      have hB3 : oB τ3 = oB τ2 := by funext r a c; unfold oB; rw [b1 56 (by decide)]
      have e52 : ∀ o, 52 ≤ o → o ≤ 55 → τ3 o = τ1 o := fun o q1 q2 => by rw [b1 o (by omega), r1 o (by omega)]
      -- the end: from a state that has the ring
      have fin : ∀ (τ4 : ox_S) (m : Nat) (g : Nat → Nat), (∀ o, o ≠ 7 → o ≠ 57 → o ≠ 66 → τ4 o = τ3 o) → (∀ q, q ≠ 32 → τ4 7 q = τ3 7 q) → oZ1 τ4 57 1872 → τ4 7 32 = nI m → m ≤ 12 → (∀ i, i < m → τ4 66 i = nI (g i)) → oLk P M x b (oB τ2) m g →
          oT L (k + 1) 85 92 [some (.ref 7), some (.int (nI x)), some (.int (nI (oNx P))), some (.int b), none] [] τ4 (fun o σ' => ∃ x' b v m g, nI x = nI x' ∧ x' < oNx P ∧ o = .inl (some (.int b)) ∧ oLk P M x' b v m g ∧ oRS σ' (P.n, ocR P P.n, M.R, oSc P x', oW P, oOd P x', v, m, g) ∧ oFm σ3 σ' ∧ σ' 7 0 = 0) := by
        intro τ4 m g f1 f2 f3 f4 f5 f6 f7
        have hM4 : oM τ4 P := oM_ext hM (by rw [f2 1 (by decide), o3 7 (by decide)]) (by rw [f2 2 (by decide), o3 7 (by decide)]) (fun o q1 q2 => by rw [f1 o (by omega) (by omega) (by omega), o3 o (by omega)])
        refine ot_look2 (R := M.R) hM4 (by rw [f2 8 (by decide)]; exact hMm3.2.1) hMok.2.1 (by unfold oZ1; rw [f1 56 (by decide) (by decide) (by decide)]; exact z3) (by omega) (by omega) (fun τ' a1 a2 a3 a4 a5 a6 a7 a8 a9 => ?_)
        refine ⟨x, b, oB τ2, m, g, rfl, hx, rfl, f7, ⟨⟨hn, by show ocR P P.n ≤ 12; omega, hMok.2.1, fun p _ => Nat.le_trans (ocW_le P p P.n) hn, f5⟩, a3, a4, a5, fun i hi => ?_, fun p hp => ?_, fun p i hp hi => ?_, fun r a b hr ha hb => ?_, by rw [a2 32 (by decide)]; exact f4, fun i hi => ?_⟩, ⟨fun o ho => ?_, fun q q1 q2 => ?_, ?_, ?_⟩, ?_⟩
        · have hi' : i < ocR P P.n := hi
          rw [a6 i (by omega), f1 52 (by decide) (by decide) (by decide), e52 52 (by decide) (by decide)]
          exact hc.2.1 i hi'
        · rw [a8 p hp, f1 54 (by decide) (by decide) (by decide), e52 54 (by decide) (by decide)]
          exact hc.2.2.1 p hp
        · have hi' : i < oW P p := hi
          have hw : oW P p ≤ 12 := Nat.le_trans (ocW_le P p P.n) hn
          rw [a7 _ (by omega), f1 53 (by decide) (by decide) (by decide), e52 53 (by decide) (by decide)]
          exact hc.2.2.2.1 p i hp hi'
        · have hr' : r < M.R := hr
          have ha' : a < P.n := ha
          have hb' : b < P.n := hb
          rw [a9 _ (by omega), f1 56 (by decide) (by decide) (by decide), b1 56 (by decide)]
          have hR40 := hMok.2.1
          show τ2 56 _ = if oB τ2 r a b then 1 else 0
          unfold oB
          rcases r2 (144 * r + 12 * a + b) (by omega) with q | q
          · rw [q]; rfl
          · rw [q]; rfl
        · rw [a1 66 (by decide) (by decide)]
          exact f6 i hi
        · rcases Nat.lt_or_ge o 63 with q | q
          · rw [a1 o (by omega) (by omega), f1 o (by omega) (by omega) (by omega), o3 o (by omega), u0 o (by omega)]
          · rw [a1 o (by omega) (by omega), f1 o (by omega) (by omega) (by omega), o3 o (by omega), u0 o (by omega)]
        · rw [a2 q (by omega), f2 q (by omega), o3 7 (by decide), u1 q q1]
        · unfold oZ1
          rw [a1 56 (by decide) (by decide), f1 56 (by decide) (by decide) (by decide)]
          exact z3
        · unfold oZ1
          rw [a1 57 (by decide) (by decide)]
          exact f3
        · rw [a2 0 (by decide), f2 0 (by decide), o3 7 (by decide), u2]
      rcases b3 with ⟨q1, q2⟩ | ⟨i, q1, q2, q3, q4⟩
      · subst q1
        refine oT_N 4 rfl (oT_If (fun q => absurd q (by decide)) (fun _ => ?_))
        refine oT_N 5 rfl (oT_If (fun _ => ?_) (fun q => absurd (by decide) q))
        exact fin (ox_up τ3 7 32 0) 0 (fun _ => 0) (fun o h1 _ _ => ox_up_ne h1) (fun q hq => by rw [ox_up_at, if_neg hq]) (by unfold oZ1; rw [ox_up_ne (by decide)]; exact b2) (by rw [ox_up_at, if_pos rfl]; rfl) (by omega) (fun i hi => by omega) ⟨hrv, Or.inl ⟨rfl, q2⟩, fun _ => rfl, fun i hi q => absurd (show nI i < 0 by rw [← q]; decide) (nI_pos (by have := hMok.2.2.1; omega))⟩
      · subst q2
        have hQ8 := hMok.2.2.1
        have hrl := hMok.2.2.2.2 i q1
        have hR40 := hMok.2.1
        have hb0 : ¬ nI i < 0 := nI_pos (by omega)
        have e51 : τ3 51 i = nI (M.rl i) := hMm3.2.2.2.2 i q1
        refine oT_N 4 rfl (oT_If (fun _ => ?_) (fun (q : ¬ 0 ≤ nI i) => absurd (Int32.not_lt.mp hb0) q))
        refine oT_N 4 rfl (oT_I (o := 51) (n := nI i) rfl (Or.inl ⟨rfl, by decide⟩) (ox_ix (N := 8) (by omega) (by decide)) ?_)
        rw [nI_clamp (show i < 2 ^ 31 by omega), e51]
        refine oT_V (PostC := fun o τ' => ∃ m, o = .inl (some (.int (nI m))) ∧ oShS τ3 τ' P.n (M.rl i) m) rfl rfl rfl rfl (by omega) (by omega) (ot_shortest (n := P.n) z3 b2 (by rw [o3 7 (by decide)]; exact hM.2.2.1) hn (by omega) (by omega) (by omega) (fun m τ' h => ⟨m, rfl, h⟩)) (fun x σ2 h => by obtain ⟨m, h, _⟩ := h; cases h) (fun v τ4 hv => ?_)
        obtain ⟨m, hv, s1, s2, s3, s4⟩ := hv
        cases hv
        have hm1 : 1 ≤ m := (oSh_rg s3).mpr (by rw [hB3]; exact q3)
        have hmn : m ≤ P.n := by rcases s3 with q | q <;> omega
        have hex : ∃ a, a < P.n ∧ oPt P.n (oB τ3 (M.rl i)) m a a := by
          rcases s3 with q | q
          · omega
          · exact q.2.2.1
        have B5 : oB (ox_up τ4 7 32 (nI m)) = oB τ3 := by funext r a c; unfold oB; rw [ox_up_ne (by decide), s1 56 (by decide)]
        refine oT_N 3 rfl (oT_If (fun (q : nI i < 0) => absurd q hb0) (fun _ => ?_))
        refine oT_N 4 rfl (oT_I (o := 51) (n := nI i) rfl (Or.inl ⟨rfl, by decide⟩) (ox_ix (N := 8) (by omega) (by decide)) ?_)
        rw [nI_clamp (show i < 2 ^ 31 by omega), show ox_up τ4 7 32 (nI m) 51 i = nI (M.rl i) by rw [ox_up_ne (by decide), s1 51 (by decide)]; exact e51]
        refine oT_V rfl rfl rfl rfl (by omega) (by omega) (ot_walk (n := P.n) (m := m) (r := M.rl i) (by unfold oZ1; rw [ox_up_ne (by decide), s1 56 (by decide)]; exact z3) (by unfold oZ1; rw [ox_up_ne (by decide)]; exact s2) (by rw [ox_up_at, if_pos rfl]) hm1 hmn hn (by omega) (fun j hj a c ha hc' => by
          rw [B5]
          have : oS (ox_up τ4 7 32 (nI m)) j a c = oS τ4 j a c := by unfold oS; rw [ox_up_ne (by decide)]
          rw [this]
          exact s4 j hj a c ha hc') (by rw [B5]; exact hex) (by omega) (by omega)) (fun x σ2 h => by cases h.1) (fun v τ5 hv => ?_)
        obtain ⟨hv, w1, g, w2, w3⟩ := hv
        cases hv
        rw [B5, hB3] at w2
        refine fin τ5 m g (fun o h1 h2 h3 => by rw [w1 o h3, ox_up_ne h1, s1 o h2]) (fun q hq => by rw [w1 7 (by decide), ox_up_at, if_neg hq, s1 7 (by decide)]) (by unfold oZ1; rw [w1 57 (by decide), ox_up_ne (by decide)]; exact s2) (by rw [w1 7 (by decide), ox_up_at, if_pos rfl]) (by omega) w3 ⟨hrv, Or.inr ⟨i, q1, rfl, q3, q4⟩, fun q => absurd q hb0, fun i' hi' q => ?_⟩
        have e9 : i = i' := (nI_eq (by omega) (by omega)).mp q
        subst e9
        exact ⟨hm1, by rw [← hB3]; exact s3, w2⟩
    · rw [if_neg he]
      simp only [if_neg he]
      refine oT_N 1 rfl (oT_If (fun _ => ?_) (fun (q : ¬ (0 : Int32) = 0) => absurd rfl q))
      refine oT_N 3 rfl (oT_V rfl rfl rfl rfl (by omega) (by omega) ot_throwing (fun x σ2 h => by cases h.1) (fun v σ4 hv => ?_))
      obtain ⟨hv, rfl⟩ := hv
      cases hv
      refine oT_N 1 rfl (oT_If (fun q => absurd q (by decide)) (fun _ => ?_))
      exact oT_N 1 rfl (oT_Ret rfl rfl rfl ⟨⟨_, rfl⟩, rfl⟩)
  · rw [if_neg hN]
    simp only [if_neg hN]
    refine oT_N 4 rfl (oT_le 5001 5000 rfl rfl (by decide) (by decide) (fun q => by omega) (fun _ => ?_))
    exact oT_N 4 rfl (oT_Ret rfl rfl rfl ⟨⟨_, rfl⟩, rfl⟩)
