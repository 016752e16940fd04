/-- bit b of an int -/
def oBit (m : Int32) (b : Nat) : Bool := m.toBitVec.getLsbD b
theorem oBit_or (x y : Int32) (b : Nat) : oBit (x ||| y) b = (oBit x b || oBit y b) := by
  unfold oBit
  rw [Int32.toBitVec_or, BitVec.getLsbD_or]
theorem oBit_and (x y : Int32) (b : Nat) : oBit (x &&& y) b = (oBit x b && oBit y b) := by
  unfold oBit
  rw [Int32.toBitVec_and, BitVec.getLsbD_and]
theorem oBit_hi (x : Int32) {b : Nat} (h : 32 ≤ b) : oBit x b = false := BitVec.getLsbD_of_ge _ _ h
theorem oBit_no (x : Int32) (b : Nat) : oBit (x ^^^ Int32.ofInt (-1)) b = (decide (b < 32) && !(oBit x b)) := by
  rcases Nat.lt_or_ge b 32 with q | q
  · unfold oBit
    rw [Int32.toBitVec_xor, BitVec.getLsbD_xor]
    have : ∀ b, b < 32 → (Int32.ofInt (-1)).toBitVec.getLsbD b = true := by decide +kernel
    rw [this b q, decide_eq_true q]
    cases x.toBitVec.getLsbD b <;> rfl
  · rw [oBit_hi _ q, decide_eq_false (by omega)]
    rfl
theorem oBit_0 (b : Nat) : oBit 0 b = false := by
  unfold oBit
  show (0#32).getLsbD b = false
  exact BitVec.getLsbD_zero
theorem oBit_ext {x y : Int32} (h : ∀ b, b < 32 → oBit x b = oBit y b) : x = y :=
  Int32.toBitVec_inj.mp (BitVec.eq_of_getLsbD_eq (fun i hi => h i hi))
/-- one bit alone, as the machine makes it -/
def o1 (b : Nat) : Int32 := Int32.ofInt 1 <<< (nI b &&& 31)
theorem oBit_1 {b : Nat} (hb : b < 12) (i : Nat) : oBit (o1 b) i = decide (i = b) := by
  rcases Nat.lt_or_ge i 32 with q | q
  · have : ∀ b, b < 12 → ∀ i, i < 32 → oBit (o1 b) i = decide (i = b) := by decide +kernel
    exact this b hb i q
  · rw [oBit_hi _ q, decide_eq_false (by omega)]
theorem oBit_and0 {x y : Int32} : x &&& y = 0 ↔ ∀ b, b < 32 → ¬ (oBit x b = true ∧ oBit y b = true) := by
  constructor
  · intro h b hb q
    have := oBit_and x y b
    rw [h, oBit_0, q.1, q.2] at this
    cases this
  · intro h
    refine oBit_ext (fun b hb => ?_)
    rw [oBit_and, oBit_0]
    cases h1 : oBit x b <;> cases h2 : oBit y b <;> simp_all
theorem oBit_t {x : Int32} {b : Nat} (hb : b < 12) : x &&& o1 b = 0 ↔ oBit x b = false := by
  rw [oBit_and0]
  constructor
  · intro h
    cases h1 : oBit x b with
    | false => rfl
    | true => exact absurd ⟨h1, by rw [oBit_1 hb]; exact decide_eq_true rfl⟩ (h b (by omega))
  · intro h i hi q
    rw [oBit_1 hb, decide_eq_true_eq] at q
    rw [q.2, h] at q
    cases q.1
/-- n ones -/
theorem oBit_n {n : Nat} (hn : n ≤ 12) (i : Nat) : oBit ((Int32.ofInt 1 <<< (nI n &&& 31)) - Int32.ofInt 1) i = decide (i < n) := by
  rcases Nat.lt_or_ge i 32 with q | q
  · have : ∀ n, n < 13 → ∀ i, i < 32 → oBit ((Int32.ofInt 1 <<< (nI n &&& 31)) - Int32.ofInt 1) i = decide (i < n) := by decide +kernel
    exact this n (by omega) i q
  · rw [oBit_hi _ q, decide_eq_false (by omega)]
section OXV
variable {L k mi p q : Nat} {ls : List (Option Value)} {st : List Value} {σ : ox_S} {Post : ox_O → ox_S → Prop} {x : Int32}
/-- a tested bit -/
theorem oT_bit (b : Nat) (hb : b < 12) (f : oBit x b = false → oT L k mi p ls st σ Post) (g : oBit x b = true → oT L k mi q ls st σ Post) : oT L k mi (if x &&& o1 b = 0 then p else q) ls st σ Post :=
  oT_If (fun h => f ((oBit_t hb).mp h)) (fun h => g (by cases e : oBit x b with
    | true => rfl
    | false => exact absurd ((oBit_t hb).mpr e) h))
end OXV
/-- the class holds the program -/
def oC (σ : ox_S) (P : oPr) : Prop := P.ok ∧ σ 1 0 = nI P.T ∧ σ 1 1 = nI P.n ∧ σ 1 2 = nI (ocR P P.n) ∧
  (∀ e, e < P.n → σ 9 e = nI (P.th e) ∧ σ 10 e = nI (P.kd e) ∧ σ 11 e = (if P.kd e < 2 then nI (P.pl e) else -1) ∧ σ 12 e = P.vl e ∧ ∀ b, b < 12 → oBit (σ 13 e) b = (decide (b < P.n) && P.dp e b)) ∧
  (∀ i, i < ocR P P.n → σ 14 i = nI (oRd P i)) ∧ (∀ p, p < 4 → σ 15 p = nI (oW P p)) ∧ (∀ p, p < 4 → ∀ b, b < 12 → oBit (σ 16 p) b = (decide (b < P.n) && oIw P p b)) ∧ ∀ p, p < 4 → ∀ j, j < oW P p → σ (18 + p) j = nI (oWr P p j)
theorem oC_ext {P : oPr} {σ τ : ox_S} (h : oC σ P) (h1 : τ 1 = σ 1) (h2 : ∀ o, 9 ≤ o → o ≤ 21 → τ o = σ o) : oC τ P := by
  obtain ⟨a1, a2, a3, a4, a5, a6, a7, a8, a9⟩ := h
  refine ⟨a1, by rw [h1]; exact a2, by rw [h1]; exact a3, by rw [h1]; exact a4, fun e he => ?_, fun i hi => ?_, fun p hp => ?_, fun p hp => ?_, fun p hp => ?_⟩
  · rw [h2 9 (by decide) (by decide), h2 10 (by decide) (by decide), h2 11 (by decide) (by decide), h2 12 (by decide) (by decide), h2 13 (by decide) (by decide)]
    exact a5 e he
  · rw [h2 14 (by decide) (by decide)]; exact a6 i hi
  · rw [h2 15 (by decide) (by decide)]; exact a7 p hp
  · rw [h2 16 (by decide) (by decide)]; exact a8 p hp
  · rw [h2 (18 + p) (by omega) (by omega)]; exact a9 p hp
theorem ot_placeRead {L k i : Nat} {σ : ox_S} {P : oPr} (h : oC σ P) (hi : i < ocR P P.n) : oT L k 27 0 [some (.ref 1), some (.int (nI i))] [] σ (fun o σ' => o = .inl (some (.int (nI (P.pl (oRd P i))))) ∧ σ' = σ) := by
  obtain ⟨⟨hT, hn, hok⟩, a2, a3, a4, a5, a6, a7, a8, a9⟩ := h
  have hR := ocR_le P P.n
  obtain ⟨r1, r2, r3⟩ := oRd_sp hi
  obtain ⟨g1, g2, g3, -⟩ := a5 _ r1
  refine oT_N 5 rfl (oT_I (o := 14) (n := nI i) rfl (Or.inl ⟨rfl, by decide⟩) (ox_ix (N := 12) (by omega) (by decide)) ?_)
  rw [nI_clamp (by omega), a6 i hi]
  refine oT_I (o := 11) (n := nI (oRd P i)) rfl (Or.inl ⟨rfl, by decide⟩) (ox_ix (N := 12) (by omega) (by decide)) ?_
  rw [nI_clamp (by omega), g3, if_pos (by omega)]
  exact oT_Ret rfl rfl rfl ⟨rfl, rfl⟩
theorem ot_isBefore {L k a b : Nat} {σ : ox_S} {P : oPr} (h : oC σ P) (ha : a < P.n) (hb : b < P.n) : oT L k 26 0 [some (.ref 1), some (.int (nI a)), some (.int (nI b))] [] σ (fun o σ' => o = .inl (some (.int (if oPg P a b then 1 else 0))) ∧ σ' = σ) := by
  obtain ⟨⟨hT, hn, hok⟩, a2, a3, a4, a5, a6, a7, a8, a9⟩ := h
  have ta := hok a ha
  have tb := hok b hb
  refine oT_N 3 rfl (oT_le b a rfl rfl (by omega) (by omega) (fun q => ?_) (fun q => ?_))
  · refine oT_N 1 rfl (oT_Ret rfl rfl rfl ⟨?_, rfl⟩)
    simp [oPg, show ¬ a < b by omega]
  · refine oT_N 3 rfl (oT_I (o := 9) (n := nI a) rfl (Or.inl ⟨rfl, by decide⟩) (ox_ix (N := 12) (by omega) (by decide)) ?_)
    rw [nI_clamp (by omega), (a5 a ha).1]
    refine oT_N 3 rfl (oT_I (o := 9) (n := nI b) rfl (Or.inl ⟨rfl, by decide⟩) (ox_ix (N := 12) (by omega) (by decide)) ?_)
    rw [nI_clamp (by omega), (a5 b hb).1]
    refine oT_N 1 rfl (oT_eq (P.th a) (P.th b) rfl rfl (by omega) (by omega) (fun e => ?_) (fun e => ?_))
    · refine oT_N 2 rfl (oT_Ret rfl rfl rfl ⟨?_, rfl⟩)
      simp [oPg, q, e]
    · refine oT_N 1 rfl (oT_Ret rfl rfl rfl ⟨?_, rfl⟩)
      simp [oPg, e]
/-- v counts T, but past 5000 it may have stopped -/
def oAp (v T : Nat) : Prop := (v ≤ 5000 → v = T) ∧ (5000 < v → 5000 < T) ∧ v ≤ 65000
theorem oAp_mul {v T f : Nat} (h : oAp v T) (hv : v ≤ 5000) (h1 : 1 ≤ f) (h13 : f ≤ 13) : oAp (v * f) (T * f) := by
  obtain ⟨a1, a2, a3⟩ := h
  have e := a1 hv
  subst e
  refine ⟨fun _ => rfl, fun q => q, ?_⟩
  have := Nat.mul_le_mul hv h13
  omega
theorem oAp_up {v T T' : Nat} (h : oAp v T) (hv : 5000 < v) (hT : T ≤ T') : oAp v T' :=
  ⟨fun q => by omega, fun _ => Nat.lt_of_lt_of_le (h.2.1 hv) hT, h.2.2⟩
theorem oNr_mono (P : oPr) {a b : Nat} (h : a ≤ b) : oNr P a ≤ oNr P b := by
  induction b with
  | zero => obtain rfl : a = 0 := by omega
            exact Nat.le_refl _
  | succ b ih =>
    rcases Nat.lt_or_ge b a with q | q
    · obtain rfl : a = b + 1 := by omega
      exact Nat.le_refl _
    · exact Nat.le_trans (ih q) (Nat.le_mul_of_pos_right _ (by omega))
theorem oFc_1 {w : Nat} (h : w ≤ 1) : oFc 1 = oFc w := by
  rcases Nat.lt_or_ge w 1 with q2 | q2
  · obtain rfl : w = 0 := by omega
    rfl
  · obtain rfl : w = 1 := by omega
    rfl
theorem ox_gt5 {v : Nat} (hv : v ≤ 65000) : 0 < lg_cmp (lN v) (Int64.ofNat 5000) ↔ 5000 < v := by
  rw [lg_cmp_gt]
  exact pk_lLT (by omega) (by omega)
set_option maxHeartbeats 1000000 in
theorem ot_executions {L k : Nat} {σ : ox_S} {P : oPr} (h : oM σ P) (hk : 2 ≤ k) (hk9 : k ≤ 9) : oT L k 65 0 [some (.ref 7), none, none, none, none] [] σ (fun o σ' => o = .inl (some (.int (nI (if oNx P ≤ 5000 then oNx P else 5001)))) ∧ σ' = σ) := by
  obtain ⟨k, rfl⟩ : ∃ k', k = k' + 1 := ⟨k - 1, by omega⟩
  obtain ⟨⟨hT, hn, hok⟩, h1, h2, h3⟩ := id h
  have hw : ∀ p, oW P p ≤ 12 := fun p => Nat.le_trans (ocW_le P p P.n) hn
  have places : ∀ (d p v : Nat) (l4 : Option Value), p + d = 4 → oAp v (oNr P (ocR P P.n) * oNw P p) → oT L (k + 1) 65 57 [some (.ref 7), some (.long (lN v)), none, some (.int (nI p)), l4] [] σ (fun o σ' => o = .inl (some (.int (nI (if oNx P ≤ 5000 then oNx P else 5001)))) ∧ σ' = σ) := by
    intro d
    induction d with
    | zero =>
      intro p v l4 hp hA
      obtain rfl : p = 4 := by omega
      refine oT_N 3 rfl (oT_le 4 4 rfl rfl (by decide) (by decide) (fun _ => ?_) (fun q => by omega))
      refine oT_N 4 rfl (oT_If (fun (q : lg_cmp (lN v) (Int64.ofNat 5000) ≤ 0) => ?_) (fun (q : ¬ lg_cmp (lN v) (Int64.ofNat 5000) ≤ 0) => ?_))
      · have hv : v ≤ 5000 := Nat.le_of_not_lt (fun e => Int32.not_lt.mpr q ((ox_gt5 hA.2.2).mpr e))
        have e : oNx P = v := (hA.1 hv).symm
        refine oT_N 2 rfl (oT_Ret (v := (lN v).toInt32) rfl rfl rfl ⟨?_, rfl⟩)
        rw [e, if_pos hv, lN_i]
      · have hv : 5000 < v := (ox_gt5 hA.2.2).mp (Int32.not_le.mp q)
        have e := hA.2.1 hv
        refine oT_N 2 rfl (oT_Ret rfl rfl rfl ⟨?_, rfl⟩)
        rw [if_neg (show ¬ oNx P ≤ 5000 by unfold oNx; omega)]
        rfl
    | succ d ih =>
      intro p v l4 hp hA
      refine oT_N 3 rfl (oT_le 4 p rfl rfl (by decide) (by omega) (fun q => by omega) (fun _ => ?_))
      refine oT_N 2 rfl ?_
      have hwp := hw p
      have ks : ∀ (d j v : Nat), (j + d = oW P p ∨ (d = 0 ∧ oW P p ≤ j)) → 1 ≤ j → j ≤ 12 → (d = 0 → oFc j = oFc (oW P p)) → oAp v (oNr P (ocR P P.n) * (oNw P p * oFc j)) → oT L (k + 1) 65 65 [some (.ref 7), some (.long (lN v)), none, some (.int (nI p)), some (.int (nI (j + 1)))] [] σ (fun o σ' => o = .inl (some (.int (nI (if oNx P ≤ 5000 then oNx P else 5001)))) ∧ σ' = σ) := by
        intro d
        induction d with
        | zero =>
          intro j v hj h1 h12 hq hA
          refine oT_N 3 rfl (oT_V rfl rfl rfl rfl (by omega) (by omega) (ot_writes h (by omega)) (fun x σ2 h => by cases h.1) (fun v σ2 hv => ?_))
          obtain ⟨hv, rfl⟩ := hv
          cases hv
          refine oT_N 1 rfl (oT_lt (oW P p) (j + 1) rfl rfl (by omega) (by omega) (fun _ => ?_) (fun q => by omega))
          rw [hq rfl] at hA
          have e9 := ih (p + 1) v (some (.int (nI (j + 1)))) (by omega) hA
          rw [← ox_inc p] at e9
          exact oT_N 2 rfl e9
        | succ d ihd =>
          intro j v hj h1 h12 hq hA
          refine oT_N 3 rfl (oT_V rfl rfl rfl rfl (by omega) (by omega) (ot_writes h (by omega)) (fun x σ2 h => by cases h.1) (fun v σ2 hv => ?_))
          obtain ⟨hv, rfl⟩ := hv
          cases hv
          refine oT_N 1 rfl (oT_lt (oW P p) (j + 1) rfl rfl (by omega) (by omega) (fun q => by omega) (fun _ => ?_))
          refine oT_N 4 rfl (oT_If (fun (q : 0 < lg_cmp (lN v) (Int64.ofNat 5000)) => ?_) (fun (q : ¬ 0 < lg_cmp (lN v) (Int64.ofNat 5000)) => ?_))
          · have e9 := ih (p + 1) v (some (.int (nI (j + 1)))) (by omega) (oAp_up hA ((ox_gt5 hA.2.2).mp q) (Nat.mul_le_mul_left _ (Nat.mul_le_mul_left _ (oFc_le (show j ≤ oW P p by omega)))))
            rw [← ox_inc p] at e9
            exact oT_N 2 rfl e9
          · have hv : v ≤ 5000 := Nat.le_of_not_lt (fun e => q ((ox_gt5 hA.2.2).mpr e))
            have hA2 := oAp_mul hA hv (show 1 ≤ j + 1 by omega) (by omega)
            have e9 := ihd (j + 1) (v * (j + 1)) (by omega) (by omega) (by omega) (fun q => by congr 1; omega) (by
              rw [show oFc (j + 1) = oFc j * (j + 1) from Nat.mul_comm _ _, ← Nat.mul_assoc, ← Nat.mul_assoc, Nat.mul_assoc (oNr P (ocR P P.n))]
              exact hA2)
            rw [← ox_inc (j + 1), ← lN_mul, ← nI_l (n := j + 1) (by omega)] at e9
            exact oT_N 7 rfl e9
      have hA1 : oAp v (oNr P (ocR P P.n) * (oNw P p * oFc 1)) := by
        show oAp v (oNr P (ocR P P.n) * (oNw P p * 1))
        rw [Nat.mul_one]; exact hA
      rcases Nat.lt_or_ge 1 (oW P p) with q | q
      · exact ks (oW P p - 1) 1 v (Or.inl (by omega)) (by omega) (by omega) (fun _ => by omega) hA1
      · exact ks 0 1 v (Or.inr ⟨rfl, q⟩) (by omega) (by omega) (fun _ => oFc_1 q) hA1
  have hnw : ∀ v, oAp v (oNr P (ocR P P.n)) → oAp v (oNr P (ocR P P.n) * oNw P 0) := fun v hv => by
    show oAp v (_ * 1)
    rw [Nat.mul_one]; exact hv
  have reads : ∀ (d e v : Nat), e + d = P.n → oAp v (oNr P (ocR P e)) → oT L (k + 1) 65 4 [some (.ref 7), some (.long (lN v)), none, some (.int (nI e)), none] [] σ (fun o σ' => o = .inl (some (.int (nI (if oNx P ≤ 5000 then oNx P else 5001)))) ∧ σ' = σ) := by
    intro d
    induction d with
    | zero =>
      intro e v he hA
      obtain rfl : e = P.n := by omega
      refine oT_N 4 rfl (oT_le P.n P.n h2 rfl (by omega) (by omega) (fun _ => ?_) (fun q => by omega))
      exact oT_N 2 rfl (places 4 0 v none rfl (hnw v hA))
    | succ d ih =>
      intro e v he hA
      obtain ⟨g1, g2, g3, -⟩ := h3 e (by omega)
      obtain ⟨o1, o2, o3⟩ := hok e (by omega)
      have hec : (nI e).toNatClampNeg = e := nI_clamp (by omega)
      have n12 : ¬ (nI e < 0 ∨ 12 ≤ (nI e).toNatClampNeg) := ox_ix (by omega) (by decide)
      refine oT_N 4 rfl (oT_le P.n e h2 rfl (by omega) (by omega) (fun q => by omega) (fun _ => ?_))
      refine oT_N 4 rfl (oT_If (fun (q : 0 < lg_cmp (lN v) (Int64.ofNat 5000)) => ?_) (fun (q : ¬ 0 < lg_cmp (lN v) (Int64.ofNat 5000)) => ?_))
      · refine oT_N 2 rfl (places 4 0 v none rfl (hnw v (oAp_up hA ((ox_gt5 hA.2.2).mp q) (oNr_mono P ?_))))
        rw [ocR_cn, ocR_cn]
        exact oCn_mono (by omega)
      · have hv : v ≤ 5000 := Nat.le_of_not_lt (fun e => q ((ox_gt5 hA.2.2).mpr e))
        refine oT_N 4 rfl (oT_I (o := 44) (n := nI e) rfl (Or.inl ⟨rfl, by decide⟩) n12 ?_)
        rw [hec, g2]
        refine oT_N 1 rfl (oT_eq (P.kd e) 0 rfl rfl (by omega) (by decide) (fun hk => ?_) (fun hk => ?_))
        · have hc : ocR P (e + 1) = ocR P e + 1 := by simp [ocR, hk]
          have hpl := o3 (by omega)
          have hwp := hw (P.pl e)
          refine oT_N 5 rfl (oT_I (o := 45) (n := nI e) rfl (Or.inl ⟨rfl, by decide⟩) n12 ?_)
          rw [hec, g3, if_pos (by omega)]
          refine oT_V rfl rfl rfl rfl (by omega) (by omega) (ot_writes h (by omega)) (fun x σ2 h => by cases h.1) (fun v σ2 hv => ?_)
          obtain ⟨hv, rfl⟩ := hv
          cases hv
          have e1 : Int32.ofInt 1 + nI (ocW P (P.pl e) P.n) = nI (1 + oW P (P.pl e)) := nI_add 1 _
          have e9 := ih (e + 1) (v * (1 + oW P (P.pl e))) (by omega) (by
            rw [hc]
            show oAp _ (oNr P (ocR P e) * (1 + oW P (P.pl (oRd P (ocR P e)))))
            rw [(oRd_of (by omega) hk).1]
            exact oAp_mul hA hv (by omega) (by omega))
          rw [← ox_inc e, ← lN_mul, ← nI_l (n := 1 + oW P (P.pl e)) (by omega), ← e1] at e9
          exact oT_N 7 rfl e9
        · have hc : ocR P (e + 1) = ocR P e := by simp [ocR, hk]
          have e9 := ih (e + 1) (v * 1) (by omega) (by rw [hc, Nat.mul_one]; exact hA)
          rw [← ox_inc e, ← lN_mul] at e9
          exact oT_N 5 rfl e9
  refine oT_N 4 rfl ?_
  exact reads P.n 0 1 (by omega) ⟨fun _ => rfl, fun q => by omega, by omega⟩
set_option maxHeartbeats 1000000 in
theorem ot_countExecutions {L k : Nat} {σ : ox_S} {P : oPr} (h : oC σ P) (hk : 2 ≤ k) (hk9 : k ≤ 9) : oT L k 28 0 [some (.ref 1), none, none, none] [] σ (fun o σ' => ∃ v, o = .inl (some (.int (nI v))) ∧ oAp v (oNx P) ∧ σ' = σ) := by
  obtain ⟨k, rfl⟩ : ∃ k', k = k' + 1 := ⟨k - 1, by omega⟩
  obtain ⟨⟨hT, hn, hok⟩, a2, a3, a4, a5, a6, a7, a8, a9⟩ := id h
  have hw : ∀ p, oW P p ≤ 12 := fun p => Nat.le_trans (ocW_le P p P.n) hn
  have hR := ocR_le P P.n
  have places : ∀ (d p v : Nat) (l3 : Option Value), p + d = 4 → oAp v (oNr P (ocR P P.n) * oNw P p) → oT L (k + 1) 28 42 [some (.ref 1), some (.int (nI v)), some (.int (nI p)), l3] [] σ (fun o σ' => ∃ v, o = .inl (some (.int (nI v))) ∧ oAp v (oNx P) ∧ σ' = σ) := by
    intro d
    induction d with
    | zero =>
      intro p v l3 hp hA
      obtain rfl : p = 4 := by omega
      refine oT_N 3 rfl (oT_le 4 4 rfl rfl (by decide) (by decide) (fun _ => ?_) (fun q => by omega))
      exact oT_N 1 rfl (oT_Ret rfl rfl rfl ⟨v, rfl, hA, rfl⟩)
    | succ d ih =>
      intro p v l3 hp hA
      refine oT_N 3 rfl (oT_le 4 p rfl rfl (by decide) (by omega) (fun q => by omega) (fun _ => ?_))
      refine oT_N 2 rfl ?_
      have hwp := hw p
      have ks : ∀ (d j v : Nat), (j + d = oW P p ∨ (d = 0 ∧ oW P p ≤ j)) → 1 ≤ j → j ≤ 12 → (d = 0 → oFc j = oFc (oW P p)) → oAp v (oNr P (ocR P P.n) * (oNw P p * oFc j)) → oT L (k + 1) 28 49 [some (.ref 1), some (.int (nI v)), some (.int (nI p)), some (.int (nI (j + 1)))] [] σ (fun o σ' => ∃ v, o = .inl (some (.int (nI v))) ∧ oAp v (oNx P) ∧ σ' = σ) := by
        intro d
        induction d with
        | zero =>
          intro j v hj h1 h12 hq hA
          refine oT_N 4 rfl (oT_I (o := 15) (n := nI p) rfl (Or.inl ⟨rfl, by decide⟩) (ox_ix (N := 4) (by omega) (by decide)) ?_)
          rw [nI_clamp (by omega), a7 p (by omega)]
          refine oT_N 1 rfl (oT_lt (oW P p) (j + 1) rfl rfl (by omega) (by omega) (fun _ => ?_) (fun q => by omega))
          rw [hq rfl] at hA
          have e9 := ih (p + 1) v (some (.int (nI (j + 1)))) (by omega) hA
          rw [← ox_inc p] at e9
          exact oT_N 2 rfl e9
        | succ d ihd =>
          intro j v hj h1 h12 hq hA
          have hv65 := hA.2.2
          refine oT_N 4 rfl (oT_I (o := 15) (n := nI p) rfl (Or.inl ⟨rfl, by decide⟩) (ox_ix (N := 4) (by omega) (by decide)) ?_)
          rw [nI_clamp (by omega), a7 p (by omega)]
          refine oT_N 1 rfl (oT_lt (oW P p) (j + 1) rfl rfl (by omega) (by omega) (fun q => by omega) (fun _ => ?_))
          refine oT_N 3 rfl (oT_lt 5000 v rfl rfl (by decide) (by omega) (fun q => ?_) (fun hv => ?_))
          · have e9 := ih (p + 1) v (some (.int (nI (j + 1)))) (by omega) (oAp_up hA q (Nat.mul_le_mul_left _ (Nat.mul_le_mul_left _ (oFc_le (show j ≤ oW P p by omega)))))
            rw [← ox_inc p] at e9
            exact oT_N 2 rfl e9
          · have hA2 := oAp_mul hA hv (show 1 ≤ j + 1 by omega) (by omega)
            have e9 := ihd (j + 1) (v * (j + 1)) (by omega) (by omega) (by omega) (fun q => by congr 1; omega) (by
              rw [show oFc (j + 1) = oFc j * (j + 1) from Nat.mul_comm _ _, ← Nat.mul_assoc, ← Nat.mul_assoc, Nat.mul_assoc (oNr P (ocR P P.n))]
              exact hA2)
            rw [← ox_inc (j + 1), ← pk_mul] at e9
            exact oT_N 6 rfl e9
      have hA1 : oAp v (oNr P (ocR P P.n) * (oNw P p * oFc 1)) := by
        show oAp v (oNr P (ocR P P.n) * (oNw P p * 1))
        rw [Nat.mul_one]; exact hA
      rcases Nat.lt_or_ge 1 (oW P p) with q | q
      · exact ks (oW P p - 1) 1 v (Or.inl (by omega)) (by omega) (by omega) (fun _ => by omega) hA1
      · exact ks 0 1 v (Or.inr ⟨rfl, q⟩) (by omega) (by omega) (fun _ => oFc_1 q) hA1
  have hnw : ∀ v, oAp v (oNr P (ocR P P.n)) → oAp v (oNr P (ocR P P.n) * oNw P 0) := fun v hv => by
    show oAp v (_ * 1)
    rw [Nat.mul_one]; exact hv
  have reads : ∀ (d i v : Nat), i + d = ocR P P.n → oAp v (oNr P i) → oT L (k + 1) 28 4 [some (.ref 1), some (.int (nI v)), some (.int (nI i)), none] [] σ (fun o σ' => ∃ v, o = .inl (some (.int (nI v))) ∧ oAp v (oNx P) ∧ σ' = σ) := by
    intro d
    induction d with
    | zero =>
      intro i v hi hA
      obtain rfl : i = ocR P P.n := by omega
      refine oT_N 4 rfl (oT_le (ocR P P.n) (ocR P P.n) a4 rfl (by omega) (by omega) (fun _ => ?_) (fun q => by omega))
      exact oT_N 2 rfl (places 4 0 v none rfl (hnw v hA))
    | succ d ih =>
      intro i v hi hA
      have hv65 := hA.2.2
      refine oT_N 4 rfl (oT_le (ocR P P.n) i a4 rfl (by omega) (by omega) (fun q => by omega) (fun _ => ?_))
      refine oT_N 3 rfl (oT_lt 5000 v rfl rfl (by decide) (by omega) (fun q => ?_) (fun hv => ?_))
      · exact oT_N 2 rfl (places 4 0 v none rfl (hnw v (oAp_up hA q (oNr_mono P (by omega)))))
      · obtain ⟨r1, r2, r3⟩ := oRd_sp (P := P) (i := i) (by omega)
        have hpl := (hok _ r1).2.2 (by omega)
        have hwp := hw (P.pl (oRd P i))
        refine oT_N 6 rfl (oT_V rfl rfl rfl rfl (by omega) (by omega) (ot_placeRead h (by omega)) (fun x σ2 h => by cases h.1) (fun v σ2 hv => ?_))
        obtain ⟨hv, rfl⟩ := hv
        cases hv
        refine oT_I (o := 15) (n := nI (P.pl (oRd P i))) rfl (Or.inl ⟨rfl, by decide⟩) (ox_ix (N := 4) (by omega) (by decide)) ?_
        rw [nI_clamp (by omega), a7 _ hpl]
        have e1 : Int32.ofInt 1 + nI (oW P (P.pl (oRd P i))) = nI (1 + oW P (P.pl (oRd P i))) := nI_add 1 _
        have e9 := ih (i + 1) (v * (1 + oW P (P.pl (oRd P i)))) (by omega) (oAp_mul hA hv (by omega) (by omega))
        rw [← ox_inc i, ← pk_mul, ← e1] at e9
        exact oT_N 5 rfl e9
  refine oT_N 4 rfl ?_
  exact reads (ocR P P.n) 0 1 (by omega) ⟨fun _ => rfl, fun q => by omega, by omega⟩
