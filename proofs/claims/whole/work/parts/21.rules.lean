/-- the machine is sound on the real one -/
theorem ox_snd {l : Launch} {D : va_G} {ad : Nat → Nat} {cy : Nat → ClassId} {L : Nat} {xs : Nat → Int32} (hap : ox_ap ad) (htr : ∀ e : Env, l.admits e → e.platform.stackTraces = false) (n : Nat) : ox_So l D ad cy L xs (ox_Z ad) n :=
  ox_sound hap ⟨fun s U σ hz hW hF hP => ox_Zs hz hW hF hP, fun s hz => hz.1⟩ (ox_throw htr) ox_catch n
def ox_gs (a b : Nat) (st : List Value) : Bool := Nat.blt a 114 && Nat.ble b st.length && Nat.ble b (ox_mL a) && (st.take b).all ox_c1 && Nat.ble (((st.drop b).map Value.category).sum) 8
theorem ox_rc4 {k : Nat} (h : k ≤ 9) : ox_rc k = 4 ∧ ox_rs k = 64 := by
  have hb : Nat.beq k 10 = false := by
    cases e : Nat.beq k 10 with
    | false => rfl
    | true => exact absurd (Nat.eq_of_beq_eq_true e) (by omega)
  simp [ox_rc, ox_rs, hb]
theorem ox_gsd {k a b : Nat} {st : List Value} (h : ox_gs a b st = true) (hk : 1 ≤ k) (hk8 : k ≤ 8) : ox_gd k 0 0 a b st = true := by
  simp only [ox_gs, Bool.and_eq_true] at h
  obtain ⟨⟨⟨⟨g0, g1⟩, g2⟩, g3⟩, g4⟩ := h
  have h1 := ox_rc4 (k := k) (by omega)
  have h2 := ox_rc4 (k := k + 1) (by omega)
  simp only [ox_gd, Bool.and_eq_true]
  refine ⟨⟨⟨⟨⟨⟨⟨g0, Nat.ble_eq_true_of_le hk⟩, g1⟩, g2⟩, g3⟩, ?_⟩, ?_⟩, g4⟩
  · rw [h1.1, h2.1]; rfl
  · rw [h1.2, h2.2]; rfl
section OXS
variable {L k mi pc i a b o : Nat} {ls : List (Option Value)} {st as : List Value} {σ σ' : ox_S} {out : ox_O × ox_S × Nat × Nat} {v : Option Value}
theorem ox_rV (hI : ox_I mi pc = some (.invokevirtual i, 3, a, b)) (hst : (st.take b).reverse = .ref o :: as) (hb : ox_gs a b st = true) (hko : (Nat.beq (ox_k o) (ox_ow a) && Nat.blt o 174) = true) (hk : 1 ≤ k) (hk8 : k ≤ 8)
    (hcall : oz_R L k a 0 (((Value.ref o :: as).map some) ++ List.replicate (ox_mL a - (as.length + 1)) none) [] σ 0 0 (.inl v, σ', 0, 0)) (K : oz_R L (k + 1) mi (pc + 3) ls (v.toList ++ st.drop b) σ' 0 0 out) : oz_R L (k + 1) mi pc ls st σ 0 0 out := by
  obtain ⟨n1, h1⟩ := hcall
  obtain ⟨n2, h2⟩ := K
  refine ⟨max n1 n2 + 1, fun m hm => ?_⟩
  obtain ⟨m', rfl⟩ : ∃ m', m = m' + 1 := ⟨m - 1, by omega⟩
  show ox_F L (ox_x L m') (k + 1) mi pc ls st σ 0 0 = _
  unfold ox_F
  rw [hI]
  simp only [ox_s1]
  rw [ox_gsd hb hk hk8, hst]
  simp only [cond_true, hko]
  rw [h1 m' (by omega)]
  exact h2 m' (by omega)
theorem ox_rS (hI : ox_I mi pc = some (.invokestatic i, 3, a, b)) (hb : ox_gs a b st = true) (ha : Nat.beq a 901 = false) (hk : 1 ≤ k) (hk8 : k ≤ 8)
    (hcall : oz_R L k a 0 (((st.take b).reverse.map some) ++ List.replicate (ox_mL a - b) none) [] σ 0 0 (.inl v, σ', 0, 0)) (K : oz_R L (k + 1) mi (pc + 3) ls (v.toList ++ st.drop b) σ' 0 0 out) : oz_R L (k + 1) mi pc ls st σ 0 0 out := by
  obtain ⟨n1, h1⟩ := hcall
  obtain ⟨n2, h2⟩ := K
  refine ⟨max n1 n2 + 1, fun m hm => ?_⟩
  obtain ⟨m', rfl⟩ : ∃ m', m = m' + 1 := ⟨m - 1, by omega⟩
  show ox_F L (ox_x L m') (k + 1) mi pc ls st σ 0 0 = _
  unfold ox_F
  rw [hI]
  simp only [ox_s1, ha, cond_false]
  rw [ox_gsd hb hk hk8]
  simp only [cond_true]
  rw [h1 m' (by omega)]
  exact h2 m' (by omega)
theorem ox_rT {x b' : Nat} (hI : ox_I mi pc = some (.new i, 3, x, b')) (hx : x < 3) (hk : 5 < k) (hk9 : k ≤ 9) : oz_R L k mi pc ls [] σ 0 0 (.inr x, σ, 1, 6) := by
  refine ⟨1, fun m hm => ?_⟩
  obtain ⟨m', rfl⟩ : ∃ m', m = m' + 1 := ⟨m - 1, by omega⟩
  show ox_F L (ox_x L m') k mi pc ls [] σ 0 0 = _
  unfold ox_F
  rw [hI]
  have h1 := ox_rc4 hk9
  have g1 : Nat.blt x 3 = true := Nat.ble_eq_true_of_le hx
  have g2 : Nat.blt 5 k = true := Nat.ble_eq_true_of_le hk
  simp only [ox_s1, g1, g2, h1.1, h1.2]
  rfl
/-- an array's place, read -/
theorem ox_rI {n : Int32} {r : List Value} {c w : Nat} (hI : ox_I mi pc = some (.iaload, 1, a, b)) (hk : (ox_k o = 10 ∧ o < 174) ∨ ox_k o = 14) (hn : ¬ (n < 0 ∨ ox_n L o ≤ n.toNatClampNeg)) (K : oz_R L k mi (pc + 1) ls (.int (σ o n.toNatClampNeg) :: r) σ c w out) : oz_R L k mi pc ls (.int n :: .ref o :: r) σ c w out :=
  ox_r1 hI (by simp only [ox_s1, ox_a]; rw [if_pos ⟨hk, hn⟩]) K
theorem ox_rZ {n : Int32} {r : List Value} {c w : Nat} (hI : ox_I mi pc = some (.baload, 1, a, b)) (hk : ox_k o = 11 ∧ o < 174) (hn : ¬ (n < 0 ∨ ox_n L o ≤ n.toNatClampNeg)) (K : oz_R L k mi (pc + 1) ls (.int (σ o n.toNatClampNeg) :: r) σ c w out) : oz_R L k mi pc ls (.int n :: .ref o :: r) σ c w out :=
  ox_r1 hI (by simp only [ox_s1, ox_a]; rw [if_pos ⟨hk, hn⟩]) K
theorem ox_rA {n : Int32} {r : List Value} {c w : Nat} (hI : ox_I mi pc = some (.aaload, 1, a, b)) (hk : ox_k o = 12 ∧ o < 174) (hn : ¬ (n < 0 ∨ ox_n L o ≤ n.toNatClampNeg)) (K : oz_R L k mi (pc + 1) ls (.ref (ox_r o n.toNatClampNeg) :: r) σ c w out) : oz_R L k mi pc ls (.int n :: .ref o :: r) σ c w out :=
  ox_r1 hI (by simp only [ox_s1, ox_a]; rw [if_pos ⟨hk, hn⟩]) K
/-- an array's place, written -/
theorem ox_rIs {n x : Int32} {r : List Value} {c w : Nat} (hI : ox_I mi pc = some (.iastore, 1, a, b)) (hk : ox_k o = 10 ∧ o < 174) (hn : ¬ (n < 0 ∨ ox_n L o ≤ n.toNatClampNeg)) (K : oz_R L k mi (pc + 1) ls r (ox_up σ o n.toNatClampNeg x) c w out) : oz_R L k mi pc ls (.int x :: .int n :: .ref o :: r) σ c w out :=
  ox_r1 hI (by simp only [ox_s1, ox_a3]; rw [if_pos ⟨hk, hn⟩]) K
theorem ox_rZs {n x : Int32} {r : List Value} {c w : Nat} (hI : ox_I mi pc = some (.bastore, 1, a, b)) (hk : ox_k o = 11 ∧ o < 174) (hn : ¬ (n < 0 ∨ ox_n L o ≤ n.toNatClampNeg)) (K : oz_R L k mi (pc + 1) ls r (ox_up σ o n.toNatClampNeg (vp_nar .boolean x)) c w out) : oz_R L k mi pc ls (.int x :: .int n :: .ref o :: r) σ c w out :=
  ox_r1 hI (by simp only [ox_s1, ox_a3]; rw [if_pos ⟨hk, hn⟩]) K
theorem ox_rDiv {x y : Int32} {r : List Value} {c w : Nat} (hI : ox_I mi pc = some (.idiv, 1, a, b)) (hy : ¬ y = 0) (K : oz_R L k mi (pc + 1) ls (.int (x / y) :: r) σ c w out) : oz_R L k mi pc ls (.int y :: .int x :: r) σ c w out :=
  ox_r1 hI (by simp only [ox_s1, ox_2]; rw [if_neg hy]) K
theorem ox_rRem {x y : Int32} {r : List Value} {c w : Nat} (hI : ox_I mi pc = some (.irem, 1, a, b)) (hy : ¬ y = 0) (K : oz_R L k mi (pc + 1) ls (.int (x - x / y * y) :: r) σ c w out) : oz_R L k mi pc ls (.int y :: .int x :: r) σ c w out :=
  ox_r1 hI (by simp only [ox_s1, ox_2]; rw [if_neg hy]) K
end OXS
theorem ot_isBelow (L k : Nat) (i n : Int32) (σ : ox_S) : oz_R L k 49 0 [some (.int i), some (.int n)] [] σ 0 0 (.inl (some (.int (if 0 ≤ i ∧ i < n then 1 else 0))), σ, 0, 0) := by
  refine ox_rN 2 rfl (ox_rIf (fun h => ?_) (fun h => ?_))
  · refine ox_rN 1 rfl ?_
    have e : (if 0 ≤ i ∧ i < n then (1 : Int32) else 0) = 0 := if_neg (fun q => Int32.not_le.mpr h q.1)
    rw [e]
    exact ox_rRet rfl rfl rfl
  · refine ox_rN 3 rfl (ox_rIf (fun h2 => ?_) (fun h2 => ?_))
    · refine ox_rN 1 rfl ?_
      have e : (if 0 ≤ i ∧ i < n then (1 : Int32) else 0) = 0 := if_neg (fun q => Int32.not_lt.mpr h2 q.2)
      rw [e]
      exact ox_rRet rfl rfl rfl
    · refine ox_rN 2 rfl ?_
      have e : (if 0 ≤ i ∧ i < n then (1 : Int32) else 0) = 1 := if_pos ⟨Int32.not_lt.mp h, Int32.not_le.mp h2⟩
      rw [e]
      exact ox_rRet rfl rfl rfl
