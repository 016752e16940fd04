/-- runs to an end of which Post holds; nothing is made but what a throw makes -/
def oT (L k mi pc : Nat) (ls : List (Option Value)) (st : List Value) (σ : ox_S) (Post : ox_O → ox_S → Prop) : Prop :=
  ∃ o σ', Post o σ' ∧ oz_R L k mi pc ls st σ 0 0 (o, σ', (match o with | .inl _ => 0 | .inr _ => 1), (match o with | .inl _ => 0 | .inr _ => 6))
section OXT
variable {L k mi pc pc' i a b o : Nat} {ls ls' : List (Option Value)} {st st' as r : List Value} {σ σ' : ox_S} {v : Option Value} {Post PostC : ox_O → ox_S → Prop} {x y n : Int32}
theorem oT_N (n : Nat) (h : ox_sN L mi n (pc, ls, st, σ) = some (pc', ls', st', σ')) (K : oT L k mi pc' ls' st' σ' Post) : oT L k mi pc ls st σ Post := by
  obtain ⟨o, s2, hp, hr⟩ := K
  exact ⟨o, s2, hp, ox_rN n h hr⟩
theorem oT_If {C : Prop} [Decidable C] {a b : Nat} (h1 : C → oT L k mi a ls st σ Post) (h2 : ¬ C → oT L k mi b ls st σ Post) : oT L k mi (if C then a else b) ls st σ Post := by
  by_cases h : C
  · rw [if_pos h]; exact h1 h
  · rw [if_neg h]; exact h2 h
theorem oT_Ret {v : Int32} {ty : FieldType} (hI : ox_I mi pc = some (.ireturn, 1, 0, 0)) (ht : ox_rt mi = some ty) (hv : narrow ty (.int v) = .int v) (hp : Post (.inl (some (.int v))) σ) : oT L k mi pc ls [.int v] σ Post :=
  ⟨_, _, hp, ox_rRet hI ht hv⟩
theorem oT_Retv (hI : ox_I mi pc = some (.return_, 1, 0, 0)) (ht : ox_rt mi = none) (hp : Post (.inl none) σ) : oT L k mi pc ls [] σ Post :=
  ⟨_, _, hp, ox_rRetv hI ht⟩
theorem oT_T {b' : Nat} {x : Nat} (hI : ox_I mi pc = some (.new i, 3, x, b')) (hx : x < 3) (hk : 5 < k) (hk9 : k ≤ 9) (hp : Post (.inr x) σ) : oT L k mi pc ls [] σ Post :=
  ⟨_, _, hp, ox_rT hI hx hk hk9⟩
theorem oT_V (hI : ox_I mi pc = some (.invokevirtual i, 3, a, b)) (hst : (st.take b).reverse = .ref o :: as) (hb : ox_gs a b st = true) (hko : (Nat.beq (ox_k o) (ox_ow a) && Nat.blt o 174) = true) (hk : 1 ≤ k) (hk8 : k ≤ 8)
    (hcall : oT L k a 0 (((Value.ref o :: as).map some) ++ List.replicate (ox_mL a - (as.length + 1)) none) [] σ PostC) (hno : ∀ x σ', ¬ PostC (.inr x) σ') (K : ∀ v σ', PostC (.inl v) σ' → oT L (k + 1) mi (pc + 3) ls (v.toList ++ st.drop b) σ' Post) : oT L (k + 1) mi pc ls st σ Post := by
  obtain ⟨o1, s1, hp1, hr1⟩ := hcall
  cases o1 with
  | inr x => exact absurd hp1 (hno x s1)
  | inl v =>
    obtain ⟨o2, s2, hp2, hr2⟩ := K v s1 hp1
    exact ⟨o2, s2, hp2, ox_rV hI hst hb hko hk hk8 hr1 hr2⟩
theorem oT_S (hI : ox_I mi pc = some (.invokestatic i, 3, a, b)) (hb : ox_gs a b st = true) (ha : Nat.beq a 901 = false) (hk : 1 ≤ k) (hk8 : k ≤ 8)
    (hcall : oT L k a 0 (((st.take b).reverse.map some) ++ List.replicate (ox_mL a - b) none) [] σ PostC) (hno : ∀ x σ', ¬ PostC (.inr x) σ') (K : ∀ v σ', PostC (.inl v) σ' → oT L (k + 1) mi (pc + 3) ls (v.toList ++ st.drop b) σ' Post) : oT L (k + 1) mi pc ls st σ Post := by
  obtain ⟨o1, s1, hp1, hr1⟩ := hcall
  cases o1 with
  | inr x => exact absurd hp1 (hno x s1)
  | inl v =>
    obtain ⟨o2, s2, hp2, hr2⟩ := K v s1 hp1
    exact ⟨o2, s2, hp2, ox_rS hI hb ha hk hk8 hr1 hr2⟩
theorem oT_I (hI : ox_I mi pc = some (.iaload, 1, a, b)) (hk : (ox_k o = 10 ∧ o < 174) ∨ ox_k o = 14) (hn : ¬ (n < 0 ∨ ox_n L o ≤ n.toNatClampNeg)) (K : oT L k mi (pc + 1) ls (.int (σ o n.toNatClampNeg) :: r) σ Post) : oT L k mi pc ls (.int n :: .ref o :: r) σ Post := by
  obtain ⟨o2, s2, hp2, hr2⟩ := K
  exact ⟨o2, s2, hp2, ox_rI hI hk hn hr2⟩
theorem oT_Z (hI : ox_I mi pc = some (.baload, 1, a, b)) (hk : ox_k o = 11 ∧ o < 174) (hn : ¬ (n < 0 ∨ ox_n L o ≤ n.toNatClampNeg)) (K : oT L k mi (pc + 1) ls (.int (σ o n.toNatClampNeg) :: r) σ Post) : oT L k mi pc ls (.int n :: .ref o :: r) σ Post := by
  obtain ⟨o2, s2, hp2, hr2⟩ := K
  exact ⟨o2, s2, hp2, ox_rZ hI hk hn hr2⟩
theorem oT_A (hI : ox_I mi pc = some (.aaload, 1, a, b)) (hk : ox_k o = 12 ∧ o < 174) (hn : ¬ (n < 0 ∨ ox_n L o ≤ n.toNatClampNeg)) (K : oT L k mi (pc + 1) ls (.ref (ox_r o n.toNatClampNeg) :: r) σ Post) : oT L k mi pc ls (.int n :: .ref o :: r) σ Post := by
  obtain ⟨o2, s2, hp2, hr2⟩ := K
  exact ⟨o2, s2, hp2, ox_rA hI hk hn hr2⟩
theorem oT_Is (hI : ox_I mi pc = some (.iastore, 1, a, b)) (hk : ox_k o = 10 ∧ o < 174) (hn : ¬ (n < 0 ∨ ox_n L o ≤ n.toNatClampNeg)) (K : oT L k mi (pc + 1) ls r (ox_up σ o n.toNatClampNeg x) Post) : oT L k mi pc ls (.int x :: .int n :: .ref o :: r) σ Post := by
  obtain ⟨o2, s2, hp2, hr2⟩ := K
  exact ⟨o2, s2, hp2, ox_rIs hI hk hn hr2⟩
theorem oT_Zs (hI : ox_I mi pc = some (.bastore, 1, a, b)) (hk : ox_k o = 11 ∧ o < 174) (hn : ¬ (n < 0 ∨ ox_n L o ≤ n.toNatClampNeg)) (K : oT L k mi (pc + 1) ls r (ox_up σ o n.toNatClampNeg (vp_nar .boolean x)) Post) : oT L k mi pc ls (.int x :: .int n :: .ref o :: r) σ Post := by
  obtain ⟨o2, s2, hp2, hr2⟩ := K
  exact ⟨o2, s2, hp2, ox_rZs hI hk hn hr2⟩
theorem oT_Div (hI : ox_I mi pc = some (.idiv, 1, a, b)) (hy : ¬ y = 0) (K : oT L k mi (pc + 1) ls (.int (x / y) :: r) σ Post) : oT L k mi pc ls (.int y :: .int x :: r) σ Post := by
  obtain ⟨o2, s2, hp2, hr2⟩ := K
  exact ⟨o2, s2, hp2, ox_rDiv hI hy hr2⟩
theorem oT_Rem (hI : ox_I mi pc = some (.irem, 1, a, b)) (hy : ¬ y = 0) (K : oT L k mi (pc + 1) ls (.int (x - x / y * y) :: r) σ Post) : oT L k mi pc ls (.int y :: .int x :: r) σ Post := by
  obtain ⟨o2, s2, hp2, hr2⟩ := K
  exact ⟨o2, s2, hp2, ox_rRem hI hy hr2⟩
theorem oT.mono (h : oT L k mi pc ls st σ PostC) (hm : ∀ o σ', PostC o σ' → Post o σ') : oT L k mi pc ls st σ Post := by
  obtain ⟨o, s2, hp, hr⟩ := h
  exact ⟨o, s2, hm _ _ hp, hr⟩
end OXT
/-- an index in range -/
theorem ox_ix {m N : Nat} (h : m < N) (hN : N < 2 ^ 31) : ¬ (nI m < 0 ∨ N ≤ (nI m).toNatClampNeg) := nI_in h hN
theorem ox_inc (m : Nat) : nI m + Int32.ofInt 1 = nI (m + 1) := nI_1 m
/-- how many of the first c values of place p are below v -/
def orkS (σ : ox_S) (p : Nat) (v : Int32) : Nat → Nat
  | 0 => 0
  | c + 1 => orkS σ p v c + (if σ (34 + p) c < v then 1 else 0)
theorem orkS_le (σ : ox_S) (p : Nat) (v : Int32) : ∀ c, orkS σ p v c ≤ c
  | 0 => Nat.le_refl 0
  | c + 1 => by
    have := orkS_le σ p v c
    unfold orkS
    split <;> omega
theorem ox_k34 : ∀ p, p < 4 → ox_k (34 + p) = 10 ∧ 34 + p < 174 ∧ ox_nz (34 + p) = 13 ∧ ox_k (39 + p) = 10 ∧ 39 + p < 174 ∧ ox_nz (39 + p) = 13 ∧ ox_k (18 + p) = 10 ∧ 18 + p < 174 ∧ ox_nz (18 + p) = 12 := by decide
theorem ox_lnN {L o N : Nat} (ho : o < 174) (h : ox_nz o = N) : ox_n L o = N := by
  have hb : Nat.blt o 174 = true := Nat.ble_eq_true_of_le ho
  simp only [ox_n, hb, cond_true, h]
theorem ox_ixL {L o N m : Nat} (ho : o < 174) (h : ox_nz o = N) (hm : m < N) (hN : N < 2 ^ 31) : ¬ (nI m < 0 ∨ ox_n L o ≤ (nI m).toNatClampNeg) := by
  rw [ox_lnN ho h]
  exact nI_in hm hN
theorem ot_rankOf {L k p c : Nat} {v : Int32} {σ : ox_S} (hp : p < 4) (hc : c ≤ 13) (hσ : σ 32 p = nI c) :
    oT L k 18 0 [some (.ref 3), some (.int (nI p)), some (.int v), none, none] [] σ (fun o σ' => o = .inl (some (.int (nI (orkS σ p v c)))) ∧ σ' = σ) := by
  refine oT_N 4 rfl ?_
  have hp4 : (nI p).toNatClampNeg = p := nI_clamp (by omega)
  have loop : ∀ d i, i + d = c → oT L k 18 5 [some (.ref 3), some (.int (nI p)), some (.int v), some (.int (nI (orkS σ p v i))), some (.int (nI i))] [] σ (fun o σ' => o = .inl (some (.int (nI (orkS σ p v c)))) ∧ σ' = σ) := by
    intro d
    induction d with
    | zero =>
      intro i hi
      obtain rfl : i = c := by omega
      refine oT_N 4 rfl (oT_I (o := 32) (n := nI p) rfl (Or.inl ⟨rfl, by decide⟩) (ox_ix (N := 4) hp (by decide)) ?_)
      rw [hp4, hσ]
      refine oT_N 1 rfl (oT_If (fun h => ?_) (fun h => ?_))
      · refine oT_N 1 rfl (oT_Ret rfl rfl rfl ⟨rfl, rfl⟩)
      · exact absurd (nI_le (Nat.le_refl i) (by omega)) h
    | succ d ih =>
      intro i hi
      refine oT_N 4 rfl (oT_I (o := 32) (n := nI p) rfl (Or.inl ⟨rfl, by decide⟩) (ox_ix (N := 4) hp (by decide)) ?_)
      rw [hp4, hσ]
      refine oT_N 1 rfl (oT_If (fun h => ?_) (fun h => ?_))
      · exact absurd h (nI_ge (by omega) (by omega))
      · have h34 := ox_k34 p hp
        refine oT_N 3 rfl (oT_A (o := 33) (n := nI p) rfl ⟨rfl, by decide⟩ (ox_ix (N := 4) hp (by decide)) ?_)
        rw [hp4]
        refine oT_N 1 rfl (oT_I (o := 34 + p) (n := nI i) rfl (Or.inl ⟨h34.1, h34.2.1⟩) (ox_ixL h34.2.1 h34.2.2.1 (by omega) (by decide)) ?_)
        rw [nI_clamp (show i < 2 ^ 31 by omega)]
        have e := ih (i + 1) (by omega)
        refine oT_N 2 rfl (oT_If (fun h2 => ?_) (fun h2 => ?_))
        · refine oT_N 2 rfl ?_
          rw [show orkS σ p v (i + 1) = orkS σ p v i from by simp only [orkS]; rw [if_neg (Int32.not_lt.mpr h2)]; rfl, ← ox_inc i] at e
          exact e
        · refine oT_N 3 rfl ?_
          rw [show orkS σ p v (i + 1) = orkS σ p v i + 1 from by simp only [orkS]; rw [if_pos (Int32.not_le.mp h2)], ← ox_inc i, ← ox_inc (orkS σ p v i)] at e
          exact e
  exact loop c 0 (by omega)
